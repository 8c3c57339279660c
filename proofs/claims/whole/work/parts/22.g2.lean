def f_X6_feed (F : Nat) (k0 : Nat) (a1 : Int) (a2 : Int) (a3 : Int) (a4 : Int) (a5 : Int) (σ : St) : Option (Int × St) :=
  z_ob 6 k0 <| 
  z_gt 20 fun v1 =>
  z_c1 (f_X2_hasRoom F (k0 + 1) v1 σ) fun v2 =>
  if ¬ v2 = 0 then (
    z_c1 (f_X2_take F (k0 + 1) a1 σ) fun σ1 =>
    z_c1 (f_X2_take F (k0 + 1) a2 σ1) fun σ2 =>
    z_c1 (f_X2_take F (k0 + 1) a3 σ2) fun σ3 =>
    z_c1 (f_X2_take F (k0 + 1) a4 σ3) fun σ4 =>
    z_c1 (f_X2_take F (k0 + 1) a5 σ4) fun σ5 =>
    z_gt (σ5 (k0 + 1) 0) fun v3 =>
    some (v3, σ5))
  else (
    z_gt (-1) fun v4 =>
    some (v4, σ))
theorem cb_X6_feed : CB yX6_feed cX6_feed 6 (some .int) 5 := ⟨ki_X6_feed, kq_X6_feed, kn_X6, kc_X6_feed, by decide +kernel, by decide +kernel, by decide +kernel⟩
set_option maxRecDepth 20000 in
set_option maxHeartbeats 4000000 in
theorem m_X6_feed (l : Launch) (G : GG) (F : Nat) (k0 : Nat) (a1 : Int32) (a2 : Int32) (a3 : Int32) (a4 : Int32) (a5 : Int32) (σ : St) : ∀ r, f_X6_feed F k0 a1.toInt a2.toInt a3.toInt a4.toInt a5.toInt σ = some r → MC G l yX6_feed cX6_feed 6 (some .int) { frames := 1, cells := 0, slots := 0, locals := 22 } [.ref (gad G k0), .int a1, .int a2, .int a3, .int a4, .int a5] σ (vI r.1) r.2 := by
  refine MC_of (own := RX6) (fun r : Int × St => vI r.1) (fun r : Int × St => r.2) (by decide +kernel) rfl (Nat.le_of_ble_eq_true rfl) ?_
  intro p e s m args below meth c C hr hlo ls hl
  have hl : lv_has ls 6 [(0, .ref (gad G k0)), (1, .int a1), (2, .int a2), (3, .int a3), (4, .int a4), (5, .int a5)] := hl
  unfold f_X6_feed
  refine q_ob (fun hk0 => ?_)
  refine q_aload_n C dX6_feed_0 rfl (lv_at hl 0 rfl) ?_
  refine g_6_0 C hk0 kf_X6_10 dX6_feed_1 ?_
  refine q_bipush C dX6_feed_4 rfl (by decide) (fun v1 => ?_)
  refine q_c1i C (fun r h => cr_V (As := [.int v1]) (rest := []) C (m_X2_hasRoom l G F (k0 + 1) v1 σ r h) cb_X2_hasRoom (yk_6_0 hk0) (by decide) rfl (cf_2 (yk_6_0 hk0) _) rfl kl_X6_64 ⟨Nat.le_of_ble_eq_true rfl, Nat.le_of_ble_eq_true rfl⟩ ⟨Nat.zero_le _, Nat.zero_le _⟩ hl.1 rfl (Nat.le_of_ble_eq_true rfl) dX6_feed_6 rfl) (fun v2 => ?_)
  refine q_if_ne C 14 dX6_feed_9 (by decide) ?_ ?_
  · refine q_aload_n C dX6_feed_14 rfl (lv_at hl 0 rfl) ?_
    refine g_6_0 C hk0 kf_X6_10 dX6_feed_15 ?_
    refine q_iload_n C dX6_feed_18 rfl (lv_at hl 1 rfl) ?_
    refine q_cv C (fun r h => cr_V (As := [.int a1]) (rest := []) C (m_X2_take l G F (k0 + 1) a1 σ r h) cb_X2_take (yk_6_0 hk0) (by decide) rfl (cf_2 (yk_6_0 hk0) _) rfl kl_X6_68 ⟨Nat.le_of_ble_eq_true rfl, Nat.le_of_ble_eq_true rfl⟩ ⟨Nat.zero_le _, Nat.zero_le _⟩ hl.1 rfl (Nat.le_of_ble_eq_true rfl) dX6_feed_19 rfl) (fun σ1 => ?_)
    refine q_aload_n C dX6_feed_22 rfl (lv_at hl 0 rfl) ?_
    refine g_6_0 C hk0 kf_X6_10 dX6_feed_23 ?_
    refine q_iload_n C dX6_feed_26 rfl (lv_at hl 2 rfl) ?_
    refine q_cv C (fun r h => cr_V (As := [.int a2]) (rest := []) C (m_X2_take l G F (k0 + 1) a2 σ1 r h) cb_X2_take (yk_6_0 hk0) (by decide) rfl (cf_2 (yk_6_0 hk0) _) rfl kl_X6_68 ⟨Nat.le_of_ble_eq_true rfl, Nat.le_of_ble_eq_true rfl⟩ ⟨Nat.zero_le _, Nat.zero_le _⟩ hl.1 rfl (Nat.le_of_ble_eq_true rfl) dX6_feed_27 rfl) (fun σ2 => ?_)
    refine q_aload_n C dX6_feed_30 rfl (lv_at hl 0 rfl) ?_
    refine g_6_0 C hk0 kf_X6_10 dX6_feed_31 ?_
    refine q_iload_n C dX6_feed_34 rfl (lv_at hl 3 rfl) ?_
    refine q_cv C (fun r h => cr_V (As := [.int a3]) (rest := []) C (m_X2_take l G F (k0 + 1) a3 σ2 r h) cb_X2_take (yk_6_0 hk0) (by decide) rfl (cf_2 (yk_6_0 hk0) _) rfl kl_X6_68 ⟨Nat.le_of_ble_eq_true rfl, Nat.le_of_ble_eq_true rfl⟩ ⟨Nat.zero_le _, Nat.zero_le _⟩ hl.1 rfl (Nat.le_of_ble_eq_true rfl) dX6_feed_35 rfl) (fun σ3 => ?_)
    refine q_aload_n C dX6_feed_38 rfl (lv_at hl 0 rfl) ?_
    refine g_6_0 C hk0 kf_X6_10 dX6_feed_39 ?_
    refine q_iload C dX6_feed_42 (lv_at hl 4 rfl) ?_
    refine q_cv C (fun r h => cr_V (As := [.int a4]) (rest := []) C (m_X2_take l G F (k0 + 1) a4 σ3 r h) cb_X2_take (yk_6_0 hk0) (by decide) rfl (cf_2 (yk_6_0 hk0) _) rfl kl_X6_68 ⟨Nat.le_of_ble_eq_true rfl, Nat.le_of_ble_eq_true rfl⟩ ⟨Nat.zero_le _, Nat.zero_le _⟩ hl.1 rfl (Nat.le_of_ble_eq_true rfl) dX6_feed_44 rfl) (fun σ4 => ?_)
    refine q_aload_n C dX6_feed_47 rfl (lv_at hl 0 rfl) ?_
    refine g_6_0 C hk0 kf_X6_10 dX6_feed_48 ?_
    refine q_iload C dX6_feed_51 (lv_at hl 5 rfl) ?_
    refine q_cv C (fun r h => cr_V (As := [.int a5]) (rest := []) C (m_X2_take l G F (k0 + 1) a5 σ4 r h) cb_X2_take (yk_6_0 hk0) (by decide) rfl (cf_2 (yk_6_0 hk0) _) rfl kl_X6_68 ⟨Nat.le_of_ble_eq_true rfl, Nat.le_of_ble_eq_true rfl⟩ ⟨Nat.zero_le _, Nat.zero_le _⟩ hl.1 rfl (Nat.le_of_ble_eq_true rfl) dX6_feed_53 rfl) (fun σ5 => ?_)
    refine q_aload_n C dX6_feed_56 rfl (lv_at hl 0 rfl) ?_
    refine g_6_0 C hk0 kf_X6_10 dX6_feed_57 ?_
    refine g_2_0 C (yk_6_0 hk0) kf_X6_72 dX6_feed_60 (fun v3 => ?_)
    exact q_iretE C hr hlo dX6_feed_63
  · refine q_iconst C dX6_feed_12 rfl (by decide) (fun v4 => ?_)
    exact q_iretE C hr hlo dX6_feed_13
def f_X6_end (F : Nat) (k0 : Nat) (a1 : Int) (σ : St) : Option (Int × St) :=
  z_ob 6 k0 <| 
  if a1 < 0 then (
    z_gt (-1) fun v1 =>
    some (v1, σ))
  else (
    z_gt (σ (k0 + 1) 0) fun v2 =>
    if a1 ≤ v2 then (
      z_sg (z_up σ (k0 + 1) 0 a1) fun σ1 =>
      some (a1, σ1))
    else (
      z_gt (-1) fun v3 =>
      some (v3, σ)))
theorem cb_X6_end : CB yX6_end cX6_end 2 (some .int) 1 := ⟨ki_X6_end, kq_X6_end, kn_X6, kc_X6_end, by decide +kernel, by decide +kernel, by decide +kernel⟩
set_option maxRecDepth 20000 in
set_option maxHeartbeats 4000000 in
theorem m_X6_end (l : Launch) (G : GG) (F : Nat) (k0 : Nat) (a1 : Int32) (σ : St) : ∀ r, f_X6_end F k0 a1.toInt σ = some r → MC G l yX6_end cX6_end 2 (some .int) { frames := 0, cells := 0, slots := 0, locals := 0 } [.ref (gad G k0), .int a1] σ (vI r.1) r.2 := by
  refine MC_of (own := RX6) (fun r : Int × St => vI r.1) (fun r : Int × St => r.2) (by decide +kernel) rfl (Nat.le_of_ble_eq_true rfl) ?_
  intro p e s m args below meth c C hr hlo ls hl
  have hl : lv_has ls 2 [(0, .ref (gad G k0)), (1, .int a1)] := hl
  unfold f_X6_end
  refine q_ob (fun hk0 => ?_)
  refine q_iload_n C dX6_end_0 rfl (lv_at hl 1 rfl) ?_
  refine q_if_lt C 15 dX6_end_1 (by decide) ?_ ?_
  · refine q_iconst C dX6_end_15 rfl (by decide) (fun v1 => ?_)
    exact q_iretE C hr hlo dX6_end_16
  · refine q_iload_n C dX6_end_4 rfl (lv_at hl 1 rfl) ?_
    refine q_aload_n C dX6_end_5 rfl (lv_at hl 0 rfl) ?_
    refine g_6_0 C hk0 kf_X6_10 dX6_end_6 ?_
    refine g_2_0 C (yk_6_0 hk0) kf_X6_72 dX6_end_9 (fun v2 => ?_)
    refine q_icmp_le C 17 dX6_end_12 (by decide) ?_ ?_
    · refine q_aload_n C dX6_end_17 rfl (lv_at hl 0 rfl) ?_
      refine g_6_0 C hk0 kf_X6_10 dX6_end_18 ?_
      refine q_iload_n C dX6_end_21 rfl (lv_at hl 1 rfl) ?_
      refine p_2_0 C (yk_6_0 hk0) kf_X6_72 dX6_end_22 (q_sg (fun σ1 => ?_))
      refine q_iload_n C dX6_end_25 rfl (lv_at hl 1 rfl) ?_
      exact q_iretE C hr hlo dX6_end_26
    · refine q_iconst C dX6_end_15 rfl (by decide) (fun v3 => ?_)
      exact q_iretE C hr hlo dX6_end_16
def f_X6_playAnew (F : Nat) (k0 : Nat) (σ : St) : Option (St) :=
  z_ob 6 k0 <| 
  z_gt (σ (k0 + 4) 0) fun v1 =>
  z_gt (σ (k0 + 4) 1) fun v2 =>
  z_c1 (f_X3_clear F (k0 + 12) v1 v2 σ) fun σ1 =>
  some σ1
theorem cb_X6_playAnew : CB yX6_playAnew cX6_playAnew 1 none 0 := ⟨ki_X6_playAnew, kq_X6_playAnew, kn_X6, kc_X6_playAnew, by decide +kernel, by decide +kernel, by decide +kernel⟩
set_option maxRecDepth 20000 in
set_option maxHeartbeats 4000000 in
theorem m_X6_playAnew (l : Launch) (G : GG) (F : Nat) (k0 : Nat) (σ : St) : ∀ r, f_X6_playAnew F k0 σ = some r → MC G l yX6_playAnew cX6_playAnew 1 none { frames := 3, cells := 0, slots := 0, locals := 88 } [.ref (gad G k0)] σ vV r := by
  refine MC_of (own := RX6) (fun _ => vV) (fun r => r) (by decide +kernel) rfl (Nat.le_of_ble_eq_true rfl) ?_
  intro p e s m args below meth c C hr hlo ls hl
  have hl : lv_has ls 1 [(0, .ref (gad G k0))] := hl
  unfold f_X6_playAnew
  refine q_ob (fun hk0 => ?_)
  refine q_aload_n C dX6_playAnew_0 rfl (lv_at hl 0 rfl) ?_
  refine g_6_5 C hk0 kf_X6_39 dX6_playAnew_1 ?_
  refine q_aload_n C dX6_playAnew_4 rfl (lv_at hl 0 rfl) ?_
  refine g_6_1 C hk0 kf_X6_19 dX6_playAnew_5 ?_
  refine g_4_0 C (yk_6_1 hk0) kf_X6_226 dX6_playAnew_8 (fun v1 => ?_)
  refine q_aload_n C dX6_playAnew_11 rfl (lv_at hl 0 rfl) ?_
  refine g_6_1 C hk0 kf_X6_19 dX6_playAnew_12 ?_
  refine g_4_1 C (yk_6_1 hk0) kf_X6_326 dX6_playAnew_15 (fun v2 => ?_)
  refine q_cv C (fun r h => cr_V (As := [.int v1, .int v2]) (rest := []) C (m_X3_clear l G F (k0 + 12) v1 v2 σ r h) cb_X3_clear (yk_6_5 hk0) (by decide) rfl (cf_3 (yk_6_5 hk0) _) rfl kl_X6_414 ⟨Nat.le_of_ble_eq_true rfl, Nat.le_of_ble_eq_true rfl⟩ ⟨Nat.zero_le _, Nat.zero_le _⟩ hl.1 rfl (Nat.le_of_ble_eq_true rfl) dX6_playAnew_18 rfl) (fun σ1 => ?_)
  exact q_vretE C hr hlo dX6_playAnew_21
def f_X6_store (F : Nat) (k0 : Nat) (σ : St) : Option (Int × St) :=
  z_ob 6 k0 <| 
  z_c2 (f_X2_read F (k0 + 1) (k0 + 7) σ) fun v1 σ1 =>
  z_gt 0 fun v2 =>
  z_sg (z_up σ1 (k0 + 1) 0 v2) fun σ2 =>
  if ¬ v1 = 0 then (
    z_c1 (f_X4_become F (k0 + 4) (k0 + 7) σ2) fun σ3 =>
    z_c1 (f_X6_playAnew F k0 σ3) fun σ4 =>
    z_c1 (f_X4_lines F (k0 + 4) σ4) fun v3 =>
    some (v3, σ4))
  else (
    z_gt (-4) fun v4 =>
    some (v4, σ2))
theorem cb_X6_store : CB yX6_store cX6_store 2 (some .int) 0 := ⟨ki_X6_store, kq_X6_store, kn_X6, kc_X6_store, by decide +kernel, by decide +kernel, by decide +kernel⟩
set_option maxRecDepth 20000 in
set_option maxHeartbeats 4000000 in
theorem m_X6_store (l : Launch) (G : GG) (F : Nat) (k0 : Nat) (σ : St) : ∀ r, f_X6_store F k0 σ = some r → MC G l yX6_store cX6_store 2 (some .int) { frames := 8, cells := 0, slots := 0, locals := 174 } [.ref (gad G k0)] σ (vI r.1) r.2 := by
  refine MC_of (own := RX6) (fun r : Int × St => vI r.1) (fun r : Int × St => r.2) (by decide +kernel) rfl (Nat.le_of_ble_eq_true rfl) ?_
  intro p e s m args below meth c C hr hlo ls hl
  have hl : lv_has ls 2 [(0, .ref (gad G k0))] := hl
  unfold f_X6_store
  refine q_ob (fun hk0 => ?_)
  refine q_aload_n C dX6_store_0 rfl (lv_at hl 0 rfl) ?_
  refine g_6_0 C hk0 kf_X6_10 dX6_store_1 ?_
  refine q_aload_n C dX6_store_4 rfl (lv_at hl 0 rfl) ?_
  refine g_6_2 C hk0 kf_X6_23 dX6_store_5 ?_
  refine q_c2i C (fun r h => cr_V (As := [.ref (gad G (k0 + 7))]) (rest := []) C (m_X2_read l G F (k0 + 1) (k0 + 7) σ r h) cb_X2_read (yk_6_0 hk0) (by decide) rfl (cf_2 (yk_6_0 hk0) _) rfl kl_X6_76 ⟨Nat.le_of_ble_eq_true rfl, Nat.le_of_ble_eq_true rfl⟩ ⟨Nat.zero_le _, Nat.zero_le _⟩ hl.1 rfl (Nat.le_of_ble_eq_true rfl) dX6_store_8 rfl) (fun v1 σ1 => ?_)
  refine q_istore_n C [(1, .int v1), (0, .ref (gad G k0))] dX6_store_11 rfl hl (by decide) rfl (fun ls hl => ?_)
  refine q_aload_n C dX6_store_12 rfl (lv_at hl 1 rfl) ?_
  refine g_6_0 C hk0 kf_X6_10 dX6_store_13 ?_
  refine q_iconst C dX6_store_16 rfl (by decide) (fun v2 => ?_)
  refine p_2_0 C (yk_6_0 hk0) kf_X6_72 dX6_store_17 (q_sg (fun σ2 => ?_))
  refine q_iload_n C dX6_store_20 rfl (lv_at hl 0 rfl) ?_
  refine q_if_ne C 27 dX6_store_21 (by decide) ?_ ?_
  · refine q_aload_n C dX6_store_27 rfl (lv_at hl 1 rfl) ?_
    refine g_6_1 C hk0 kf_X6_19 dX6_store_28 ?_
    refine q_aload_n C dX6_store_31 rfl (lv_at hl 1 rfl) ?_
    refine g_6_2 C hk0 kf_X6_23 dX6_store_32 ?_
    refine q_cv C (fun r h => cr_V (As := [.ref (gad G (k0 + 7))]) (rest := []) C (m_X4_become l G F (k0 + 4) (k0 + 7) σ2 r h) cb_X4_become (yk_6_1 hk0) (by decide) rfl (cf_4 (yk_6_1 hk0) _) rfl kl_X6_80 ⟨Nat.le_of_ble_eq_true rfl, Nat.le_of_ble_eq_true rfl⟩ ⟨Nat.zero_le _, Nat.zero_le _⟩ hl.1 rfl (Nat.le_of_ble_eq_true rfl) dX6_store_35 rfl) (fun σ3 => ?_)
    refine q_aload_n C dX6_store_38 rfl (lv_at hl 1 rfl) ?_
    refine q_cv C (fun r h => cr_V (As := []) (rest := []) C (m_X6_playAnew l G F k0 σ3 r h) cb_X6_playAnew hk0 (by decide) rfl (cf_6 hk0 _) rfl kl_X6_84 ⟨Nat.le_of_ble_eq_true rfl, Nat.le_of_ble_eq_true rfl⟩ ⟨Nat.zero_le _, Nat.zero_le _⟩ hl.1 rfl (Nat.le_of_ble_eq_true rfl) dX6_store_39 rfl) (fun σ4 => ?_)
    refine q_aload_n C dX6_store_42 rfl (lv_at hl 1 rfl) ?_
    refine g_6_1 C hk0 kf_X6_19 dX6_store_43 ?_
    refine q_c1i C (fun r h => cr_V (As := []) (rest := []) C (m_X4_lines l G F (k0 + 4) σ4 r h) cb_X4_lines (yk_6_1 hk0) (by decide) rfl (cf_4 (yk_6_1 hk0) _) rfl kl_X6_87 ⟨Nat.le_of_ble_eq_true rfl, Nat.le_of_ble_eq_true rfl⟩ ⟨Nat.zero_le _, Nat.zero_le _⟩ hl.1 rfl (Nat.le_of_ble_eq_true rfl) dX6_store_46 rfl) (fun v3 => ?_)
    exact q_iretE C hr hlo dX6_store_49
  · refine q_bipush C dX6_store_24 rfl (by decide) (fun v4 => ?_)
    exact q_iretE C hr hlo dX6_store_26
def f_X6_fault (F : Nat) (k0 : Nat) (a1 : Int) (σ : St) : Option (Int) :=
  z_ob 6 k0 <| 
  if ¬ a1 = 0 then (
    z_gt 1 fun v1 =>
    if ¬ a1 = v1 then (
      z_gt (-1) fun v2 =>
      some v2)
    else (
      z_gt (σ (k0 + 1) 2) fun v3 =>
      some v3))
  else (
    z_gt (σ (k0 + 1) 1) fun v4 =>
    some v4)
theorem cb_X6_fault : CB yX6_fault cX6_fault 2 (some .int) 1 := ⟨ki_X6_fault, kq_X6_fault, kn_X6, kc_X6_fault, by decide +kernel, by decide +kernel, by decide +kernel⟩
set_option maxRecDepth 20000 in
set_option maxHeartbeats 4000000 in
theorem m_X6_fault (l : Launch) (G : GG) (F : Nat) (k0 : Nat) (a1 : Int32) (σ : St) : ∀ r, f_X6_fault F k0 a1.toInt σ = some r → MC G l yX6_fault cX6_fault 2 (some .int) { frames := 0, cells := 0, slots := 0, locals := 0 } [.ref (gad G k0), .int a1] σ (vI r) σ := by
  refine MC_of (own := RX6) (vI) (fun _ => σ) (by decide +kernel) rfl (Nat.le_of_ble_eq_true rfl) ?_
  intro p e s m args below meth c C hr hlo ls hl
  have hl : lv_has ls 2 [(0, .ref (gad G k0)), (1, .int a1)] := hl
  unfold f_X6_fault
  refine q_ob (fun hk0 => ?_)
  refine q_iload_n C dX6_fault_0 rfl (lv_at hl 1 rfl) ?_
  refine q_if_ne C 12 dX6_fault_1 (by decide) ?_ ?_
  · refine q_iload_n C dX6_fault_12 rfl (lv_at hl 1 rfl) ?_
    refine q_iconst C dX6_fault_13 rfl (by decide) (fun v1 => ?_)
    refine q_icmp_ne C 27 dX6_fault_14 (by decide) ?_ ?_
    · refine q_iconst C dX6_fault_27 rfl (by decide) (fun v2 => ?_)
      exact q_iret C hr hlo dX6_fault_28
    · refine q_aload_n C dX6_fault_17 rfl (lv_at hl 0 rfl) ?_
      refine g_6_0 C hk0 kf_X6_10 dX6_fault_18 ?_
      refine g_2_2 C (yk_6_0 hk0) kf_X6_94 dX6_fault_21 (fun v3 => ?_)
      refine q_goto C 28 dX6_fault_24 (by decide) ?_
      exact q_iret C hr hlo dX6_fault_28
  · refine q_aload_n C dX6_fault_4 rfl (lv_at hl 0 rfl) ?_
    refine g_6_0 C hk0 kf_X6_10 dX6_fault_5 ?_
    refine g_2_1 C (yk_6_0 hk0) kf_X6_91 dX6_fault_8 (fun v4 => ?_)
    exact q_iret C hr hlo dX6_fault_11
def f_X6_hasEvent (F : Nat) (k0 : Nat) (a1 : Int) (σ : St) : Option (Int) :=
  z_ob 6 k0 <| 
  if a1 < 0 then (
    z_gt 0 fun v1 =>
    z_bo v1 <| some v1)
  else (
    z_c1 (f_X4_size F (k0 + 4) σ) fun v2 =>
    if v2 ≤ a1 then (
      z_gt 0 fun v3 =>
      z_bo v3 <| some v3)
    else (
      z_gt 1 fun v4 =>
      z_bo v4 <| some v4))
theorem cb_X6_hasEvent : CB yX6_hasEvent cX6_hasEvent 2 (some .boolean) 1 := ⟨ki_X6_hasEvent, kq_X6_hasEvent, kn_X6, kc_X6_hasEvent, by decide +kernel, by decide +kernel, by decide +kernel⟩
set_option maxRecDepth 20000 in
set_option maxHeartbeats 4000000 in
theorem m_X6_hasEvent (l : Launch) (G : GG) (F : Nat) (k0 : Nat) (a1 : Int32) (σ : St) : ∀ r, f_X6_hasEvent F k0 a1.toInt σ = some r → MC G l yX6_hasEvent cX6_hasEvent 2 (some .boolean) { frames := 1, cells := 0, slots := 0, locals := 20 } [.ref (gad G k0), .int a1] σ (vI r) σ := by
  refine MC_of (own := RX6) (vI) (fun _ => σ) (by decide +kernel) rfl (Nat.le_of_ble_eq_true rfl) ?_
  intro p e s m args below meth c C hr hlo ls hl
  have hl : lv_has ls 2 [(0, .ref (gad G k0)), (1, .int a1)] := hl
  unfold f_X6_hasEvent
  refine q_ob (fun hk0 => ?_)
  refine q_iload_n C dX6_hasEvent_0 rfl (lv_at hl 1 rfl) ?_
  refine q_if_lt C 19 dX6_hasEvent_1 (by decide) ?_ ?_
  · refine q_iconst C dX6_hasEvent_19 rfl (by decide) (fun v1 => ?_)
    exact q_zret C hr hlo dX6_hasEvent_20
  · refine q_iload_n C dX6_hasEvent_4 rfl (lv_at hl 1 rfl) ?_
    refine q_aload_n C dX6_hasEvent_5 rfl (lv_at hl 0 rfl) ?_
    refine g_6_1 C hk0 kf_X6_19 dX6_hasEvent_6 ?_
    refine q_c1i C (fun r h => cr_V (As := []) (rest := [.int a1]) C (m_X4_size l G F (k0 + 4) σ r h) cb_X4_size (yk_6_1 hk0) (by decide) rfl (cf_4 (yk_6_1 hk0) _) rfl kl_X6_249 ⟨Nat.le_of_ble_eq_true rfl, Nat.le_of_ble_eq_true rfl⟩ ⟨Nat.zero_le _, Nat.zero_le _⟩ hl.1 rfl (Nat.le_of_ble_eq_true rfl) dX6_hasEvent_9 rfl) (fun v2 => ?_)
    refine q_icmp_ge C 19 dX6_hasEvent_12 (by decide) ?_ ?_
    · refine q_iconst C dX6_hasEvent_19 rfl (by decide) (fun v3 => ?_)
      exact q_zret C hr hlo dX6_hasEvent_20
    · refine q_iconst C dX6_hasEvent_15 rfl (by decide) (fun v4 => ?_)
      refine q_goto C 20 dX6_hasEvent_16 (by decide) ?_
      exact q_zret C hr hlo dX6_hasEvent_20
def f_X6_event (F : Nat) (k0 : Nat) (a1 : Int) (a2 : Int) (σ : St) : Option (Int) :=
  z_ob 6 k0 <| 
  z_c1 (f_X6_hasEvent F k0 a1 σ) fun v1 =>
  if v1 = 0 then (
    z_gt (-2) fun v2 =>
    some v2)
  else (
    if a2 < 0 then (
      z_gt (-2) fun v3 =>
      some v3)
    else (
      z_gt 3 fun v4 =>
      if a2 ≤ v4 then (
        if ¬ a2 = 0 then (
          z_gt 1 fun v5 =>
          z_ck (a2 - v5) fun v6 =>
          z_c1 (f_X4_numberOf F (k0 + 4) a1 v6 σ) fun v7 =>
          some v7)
        else (
          z_c1 (f_X4_kindOf F (k0 + 4) a1 σ) fun v8 =>
          some v8))
      else (
        z_gt (-2) fun v9 =>
        some v9)))
theorem cb_X6_event : CB yX6_event cX6_event 3 (some .int) 2 := ⟨ki_X6_event, kq_X6_event, kn_X6, kc_X6_event, by decide +kernel, by decide +kernel, by decide +kernel⟩
set_option maxRecDepth 20000 in
set_option maxHeartbeats 4000000 in
theorem m_X6_event (l : Launch) (G : GG) (F : Nat) (k0 : Nat) (a1 : Int32) (a2 : Int32) (σ : St) : ∀ r, f_X6_event F k0 a1.toInt a2.toInt σ = some r → MC G l yX6_event cX6_event 3 (some .int) { frames := 2, cells := 0, slots := 0, locals := 41 } [.ref (gad G k0), .int a1, .int a2] σ (vI r) σ := by
  refine MC_of (own := RX6) (vI) (fun _ => σ) (by decide +kernel) rfl (Nat.le_of_ble_eq_true rfl) ?_
  intro p e s m args below meth c C hr hlo ls hl
  have hl : lv_has ls 3 [(0, .ref (gad G k0)), (1, .int a1), (2, .int a2)] := hl
  unfold f_X6_event
  refine q_ob (fun hk0 => ?_)
  refine q_aload_n C dX6_event_0 rfl (lv_at hl 0 rfl) ?_
  refine q_iload_n C dX6_event_1 rfl (lv_at hl 1 rfl) ?_
  refine q_c1i C (fun r h => cr_V (As := [.int a1]) (rest := []) C (m_X6_hasEvent l G F k0 a1 σ r h) cb_X6_hasEvent hk0 (by decide) rfl (cf_6 hk0 _) rfl kl_X6_97 ⟨Nat.le_of_ble_eq_true rfl, Nat.le_of_ble_eq_true rfl⟩ ⟨Nat.zero_le _, Nat.zero_le _⟩ hl.1 rfl (Nat.le_of_ble_eq_true rfl) dX6_event_2 rfl) (fun v1 => ?_)
  refine q_if_eq C 17 dX6_event_5 (by decide) ?_ ?_
  · refine q_bipush C dX6_event_17 rfl (by decide) (fun v2 => ?_)
    exact q_iret C hr hlo dX6_event_19
  · refine q_iload_n C dX6_event_8 rfl (lv_at hl 2 rfl) ?_
    refine q_if_lt C 17 dX6_event_9 (by decide) ?_ ?_
    · refine q_bipush C dX6_event_17 rfl (by decide) (fun v3 => ?_)
      exact q_iret C hr hlo dX6_event_19
    · refine q_iload_n C dX6_event_12 rfl (lv_at hl 2 rfl) ?_
      refine q_iconst C dX6_event_13 rfl (by decide) (fun v4 => ?_)
      refine q_icmp_le C 20 dX6_event_14 (by decide) ?_ ?_
      · refine q_iload_n C dX6_event_20 rfl (lv_at hl 2 rfl) ?_
        refine q_if_ne C 35 dX6_event_21 (by decide) ?_ ?_
        · refine q_aload_n C dX6_event_35 rfl (lv_at hl 0 rfl) ?_
          refine g_6_1 C hk0 kf_X6_19 dX6_event_36 ?_
          refine q_iload_n C dX6_event_39 rfl (lv_at hl 1 rfl) ?_
          refine q_iload_n C dX6_event_40 rfl (lv_at hl 2 rfl) ?_
          refine q_iconst C dX6_event_41 rfl (by decide) (fun v5 => ?_)
          refine q_isub C dX6_event_42 (fun v6 => ?_)
          refine q_c1i C (fun r h => cr_V (As := [.int a1, .int v6]) (rest := []) C (m_X4_numberOf l G F (k0 + 4) a1 v6 σ r h) cb_X4_numberOf (yk_6_1 hk0) (by decide) rfl (cf_4 (yk_6_1 hk0) _) rfl kl_X6_104 ⟨Nat.le_of_ble_eq_true rfl, Nat.le_of_ble_eq_true rfl⟩ ⟨Nat.zero_le _, Nat.zero_le _⟩ hl.1 rfl (Nat.le_of_ble_eq_true rfl) dX6_event_43 rfl) (fun v7 => ?_)
          exact q_iret C hr hlo dX6_event_46
        · refine q_aload_n C dX6_event_24 rfl (lv_at hl 0 rfl) ?_
          refine g_6_1 C hk0 kf_X6_19 dX6_event_25 ?_
          refine q_iload_n C dX6_event_28 rfl (lv_at hl 1 rfl) ?_
          refine q_c1i C (fun r h => cr_V (As := [.int a1]) (rest := []) C (m_X4_kindOf l G F (k0 + 4) a1 σ r h) cb_X4_kindOf (yk_6_1 hk0) (by decide) rfl (cf_4 (yk_6_1 hk0) _) rfl kl_X6_100 ⟨Nat.le_of_ble_eq_true rfl, Nat.le_of_ble_eq_true rfl⟩ ⟨Nat.zero_le _, Nat.zero_le _⟩ hl.1 rfl (Nat.le_of_ble_eq_true rfl) dX6_event_29 rfl) (fun v8 => ?_)
          refine q_goto C 46 dX6_event_32 (by decide) ?_
          exact q_iret C hr hlo dX6_event_46
      · refine q_bipush C dX6_event_17 rfl (by decide) (fun v9 => ?_)
        exact q_iret C hr hlo dX6_event_19
def f_X6_playTo_L23 (F : Nat) (k0 : Nat) (a1 : Int)   : Nat → Int → St → Option (St)
  | 0, _, _ => none
  | n + 1, x3, σ =>
    if a1 ≤ x3 then (
      some σ)
    else (
      z_gt 60 fun v4 =>
      if v4 ≤ x3 then (
        some σ)
      else (
        z_c1 (f_X3_step F (k0 + 12) (k0 + 4) x3 σ) fun σ1 =>
        z_ck (x3 + 1) fun v5 =>
        f_X6_playTo_L23 F k0 a1 n v5 σ1))

def f_X6_playTo (F : Nat) (k0 : Nat) (a1 : Int) (σ : St) : Option (St) :=
  z_ob 6 k0 <| 
  z_gt (σ (k0 + 12) 1) fun v1 =>
  if v1 ≤ a1 then (
    z_gt (σ (k0 + 12) 1) fun v2 =>
    f_X6_playTo_L23 F k0 a1 F v2 σ)
  else (
    z_c1 (f_X6_playAnew F k0 σ) fun σ2 =>
    z_gt (σ2 (k0 + 12) 1) fun v6 =>
    f_X6_playTo_L23 F k0 a1 F v6 σ2)
theorem cb_X6_playTo : CB yX6_playTo cX6_playTo 3 none 1 := ⟨ki_X6_playTo, kq_X6_playTo, kn_X6, kc_X6_playTo, by decide +kernel, by decide +kernel, by decide +kernel⟩
set_option maxRecDepth 20000 in
set_option maxHeartbeats 4000000 in
theorem m_X6_playTo (l : Launch) (G : GG) (F : Nat) (k0 : Nat) (a1 : Int32) (σ : St) : ∀ r, f_X6_playTo F k0 a1.toInt σ = some r → MC G l yX6_playTo cX6_playTo 3 none { frames := 4, cells := 0, slots := 0, locals := 112 } [.ref (gad G k0), .int a1] σ vV r := by
  refine MC_of (own := RX6) (fun _ => vV) (fun r => r) (by decide +kernel) rfl (Nat.le_of_ble_eq_true rfl) ?_
  intro p e s m args below meth c C hr hlo ls hl
  have hl : lv_has ls 3 [(0, .ref (gad G k0)), (1, .int a1)] := hl
  unfold f_X6_playTo
  refine q_ob (fun hk0 => ?_)
  have B23 : ∀ (n : Nat) (x3 : Int32) (σ : St) (ls : Array Slot), lv_has ls 3 [(0, .ref (gad G k0)), (1, .int a1), (2, .int x3)] → Sim G (AG G) 0 0 p l e { frames := 4, cells := 0, slots := 0, locals := 112 } s m args below meth c (fun r : St => MQ below (QC G (vV) (r)) args s 0 0 (AG G)) σ (f_X6_playTo_L23 F k0 a1.toInt   n x3.toInt σ) (F0 m 23 ls []) := by
    intro n
    induction n with
    | zero =>
      intro x3 σ ls hl
      exact sim_none
    | succ n ih =>
      intro x3 σ ls hl
      rw [f_X6_playTo_L23]
      refine q_iload_n C dX6_playTo_23 rfl (lv_at hl 2 rfl) ?_
      refine q_iload_n C dX6_playTo_24 rfl (lv_at hl 1 rfl) ?_
      refine q_icmp_ge C 52 dX6_playTo_25 (by decide) ?_ ?_
      · exact q_vretE C hr hlo dX6_playTo_52
      · refine q_iload_n C dX6_playTo_28 rfl (lv_at hl 2 rfl) ?_
        refine q_bipush C dX6_playTo_29 rfl (by decide) (fun v4 => ?_)
        refine q_icmp_ge C 52 dX6_playTo_31 (by decide) ?_ ?_
        · exact q_vretE C hr hlo dX6_playTo_52
        · refine q_aload_n C dX6_playTo_34 rfl (lv_at hl 0 rfl) ?_
          refine g_6_5 C hk0 kf_X6_39 dX6_playTo_35 ?_
          refine q_aload_n C dX6_playTo_38 rfl (lv_at hl 0 rfl) ?_
          refine g_6_1 C hk0 kf_X6_19 dX6_playTo_39 ?_
          refine q_iload_n C dX6_playTo_42 rfl (lv_at hl 2 rfl) ?_
          refine q_cv C (fun r h => cr_V (As := [.ref (gad G (k0 + 4)), .int x3]) (rest := []) C (m_X3_step l G F (k0 + 12) (k0 + 4) x3 σ r h) cb_X3_step (yk_6_5 hk0) (by decide) rfl (cf_3 (yk_6_5 hk0) _) rfl kl_X6_419 ⟨Nat.le_of_ble_eq_true rfl, Nat.le_of_ble_eq_true rfl⟩ ⟨Nat.zero_le _, Nat.zero_le _⟩ hl.1 rfl (Nat.le_of_ble_eq_true rfl) dX6_playTo_43 rfl) (fun σ1 => ?_)
          refine q_iinc (k := 2) C (fun v5 => [(2, .int v5), (0, .ref (gad G k0)), (1, .int a1)]) dX6_playTo_46 hl rfl (by decide) (by decide) (fun _ => rfl) (fun v5 ls hl => ?_)
          refine q_goto C 23 dX6_playTo_49 (by decide) ?_
          exact ih v5 σ1 ls (lv_sub hl [1, 2, 0] rfl)
  refine q_iload_n C dX6_playTo_0 rfl (lv_at hl 1 rfl) ?_
  refine q_aload_n C dX6_playTo_1 rfl (lv_at hl 0 rfl) ?_
  refine g_6_5 C hk0 kf_X6_39 dX6_playTo_2 ?_
  refine g_3_1 C (yk_6_5 hk0) kf_X6_416 dX6_playTo_5 (fun v1 => ?_)
  refine q_icmp_ge C 15 dX6_playTo_8 (by decide) ?_ ?_
  · refine q_aload_n C dX6_playTo_15 rfl (lv_at hl 0 rfl) ?_
    refine g_6_5 C hk0 kf_X6_39 dX6_playTo_16 ?_
    refine g_3_1 C (yk_6_5 hk0) kf_X6_416 dX6_playTo_19 (fun v2 => ?_)
    refine q_istore_n C [(2, .int v2), (0, .ref (gad G k0)), (1, .int a1)] dX6_playTo_22 rfl hl (by decide) rfl (fun ls hl => ?_)
    exact B23 F v2 σ ls (lv_sub hl [1, 2, 0] rfl)
  · refine q_aload_n C dX6_playTo_11 rfl (lv_at hl 0 rfl) ?_
    refine q_cv C (fun r h => cr_V (As := []) (rest := []) C (m_X6_playAnew l G F k0 σ r h) cb_X6_playAnew hk0 (by decide) rfl (cf_6 hk0 _) rfl kl_X6_84 ⟨Nat.le_of_ble_eq_true rfl, Nat.le_of_ble_eq_true rfl⟩ ⟨Nat.zero_le _, Nat.zero_le _⟩ hl.1 rfl (Nat.le_of_ble_eq_true rfl) dX6_playTo_12 rfl) (fun σ2 => ?_)
    refine q_aload_n C dX6_playTo_15 rfl (lv_at hl 0 rfl) ?_
    refine g_6_5 C hk0 kf_X6_39 dX6_playTo_16 ?_
    refine g_3_1 C (yk_6_5 hk0) kf_X6_416 dX6_playTo_19 (fun v6 => ?_)
    refine q_istore_n C [(2, .int v6), (0, .ref (gad G k0)), (1, .int a1)] dX6_playTo_22 rfl hl (by decide) rfl (fun ls hl => ?_)
    exact B23 F v6 σ2 ls (lv_sub hl [1, 2, 0] rfl)
def f_X6_refused (F : Nat) (k0 : Nat) (a1 : Int) (σ : St) : Option (Int × St) :=
  z_ob 6 k0 <| 
  z_c1 (f_X6_hasEvent F k0 a1 σ) fun v1 =>
  if ¬ v1 = 0 then (
    z_gt 1 fun v2 =>
    z_ck (a1 + v2) fun v3 =>
    z_c1 (f_X6_playTo F k0 v3 σ) fun σ1 =>
    z_gt (σ1 (k0 + 12) 5) fun v4 =>
    some (v4, σ1))
  else (
    z_gt (-2) fun v5 =>
    some (v5, σ))
theorem cb_X6_refused : CB yX6_refused cX6_refused 2 (some .int) 1 := ⟨ki_X6_refused, kq_X6_refused, kn_X6, kc_X6_refused, by decide +kernel, by decide +kernel, by decide +kernel⟩
set_option maxRecDepth 20000 in
set_option maxHeartbeats 4000000 in
theorem m_X6_refused (l : Launch) (G : GG) (F : Nat) (k0 : Nat) (a1 : Int32) (σ : St) : ∀ r, f_X6_refused F k0 a1.toInt σ = some r → MC G l yX6_refused cX6_refused 2 (some .int) { frames := 5, cells := 0, slots := 0, locals := 134 } [.ref (gad G k0), .int a1] σ (vI r.1) r.2 := by
  refine MC_of (own := RX6) (fun r : Int × St => vI r.1) (fun r : Int × St => r.2) (by decide +kernel) rfl (Nat.le_of_ble_eq_true rfl) ?_
  intro p e s m args below meth c C hr hlo ls hl
  have hl : lv_has ls 2 [(0, .ref (gad G k0)), (1, .int a1)] := hl
  unfold f_X6_refused
  refine q_ob (fun hk0 => ?_)
  refine q_aload_n C dX6_refused_0 rfl (lv_at hl 0 rfl) ?_
  refine q_iload_n C dX6_refused_1 rfl (lv_at hl 1 rfl) ?_
  refine q_c1i C (fun r h => cr_V (As := [.int a1]) (rest := []) C (m_X6_hasEvent l G F k0 a1 σ r h) cb_X6_hasEvent hk0 (by decide) rfl (cf_6 hk0 _) rfl kl_X6_97 ⟨Nat.le_of_ble_eq_true rfl, Nat.le_of_ble_eq_true rfl⟩ ⟨Nat.zero_le _, Nat.zero_le _⟩ hl.1 rfl (Nat.le_of_ble_eq_true rfl) dX6_refused_2 rfl) (fun v1 => ?_)
  refine q_if_ne C 11 dX6_refused_5 (by decide) ?_ ?_
  · refine q_aload_n C dX6_refused_11 rfl (lv_at hl 0 rfl) ?_
    refine q_iload_n C dX6_refused_12 rfl (lv_at hl 1 rfl) ?_
    refine q_iconst C dX6_refused_13 rfl (by decide) (fun v2 => ?_)
    refine q_iadd C dX6_refused_14 (fun v3 => ?_)
    refine q_cv C (fun r h => cr_V (As := [.int v3]) (rest := []) C (m_X6_playTo l G F k0 v3 σ r h) cb_X6_playTo hk0 (by decide) rfl (cf_6 hk0 _) rfl kl_X6_108 ⟨Nat.le_of_ble_eq_true rfl, Nat.le_of_ble_eq_true rfl⟩ ⟨Nat.zero_le _, Nat.zero_le _⟩ hl.1 rfl (Nat.le_of_ble_eq_true rfl) dX6_refused_15 rfl) (fun σ1 => ?_)
    refine q_aload_n C dX6_refused_18 rfl (lv_at hl 0 rfl) ?_
    refine g_6_5 C hk0 kf_X6_39 dX6_refused_19 ?_
    refine g_3_5 C (yk_6_5 hk0) kf_X6_111 dX6_refused_22 (fun v4 => ?_)
    exact q_iretE C hr hlo dX6_refused_25
  · refine q_bipush C dX6_refused_8 rfl (by decide) (fun v5 => ?_)
    exact q_iretE C hr hlo dX6_refused_10
def f_X6_hasCell (F : Nat) (k0 : Nat) (a1 : Int) (σ : St) : Option (Int) :=
  z_ob 6 k0 <| 
  if a1 < 0 then (
    z_gt 0 fun v1 =>
    z_bo v1 <| some v1)
  else (
    z_gt (σ (k0 + 4) 0) fun v2 =>
    if v2 ≤ a1 then (
      z_gt 0 fun v3 =>
      z_bo v3 <| some v3)
    else (
      z_gt 1 fun v4 =>
      z_bo v4 <| some v4))
theorem cb_X6_hasCell : CB yX6_hasCell cX6_hasCell 2 (some .boolean) 1 := ⟨ki_X6_hasCell, kq_X6_hasCell, kn_X6, kc_X6_hasCell, by decide +kernel, by decide +kernel, by decide +kernel⟩
set_option maxRecDepth 20000 in
set_option maxHeartbeats 4000000 in
theorem m_X6_hasCell (l : Launch) (G : GG) (F : Nat) (k0 : Nat) (a1 : Int32) (σ : St) : ∀ r, f_X6_hasCell F k0 a1.toInt σ = some r → MC G l yX6_hasCell cX6_hasCell 2 (some .boolean) { frames := 0, cells := 0, slots := 0, locals := 0 } [.ref (gad G k0), .int a1] σ (vI r) σ := by
  refine MC_of (own := RX6) (vI) (fun _ => σ) (by decide +kernel) rfl (Nat.le_of_ble_eq_true rfl) ?_
  intro p e s m args below meth c C hr hlo ls hl
  have hl : lv_has ls 2 [(0, .ref (gad G k0)), (1, .int a1)] := hl
  unfold f_X6_hasCell
  refine q_ob (fun hk0 => ?_)
  refine q_iload_n C dX6_hasCell_0 rfl (lv_at hl 1 rfl) ?_
  refine q_if_lt C 19 dX6_hasCell_1 (by decide) ?_ ?_
  · refine q_iconst C dX6_hasCell_19 rfl (by decide) (fun v1 => ?_)
    exact q_zret C hr hlo dX6_hasCell_20
  · refine q_iload_n C dX6_hasCell_4 rfl (lv_at hl 1 rfl) ?_
    refine q_aload_n C dX6_hasCell_5 rfl (lv_at hl 0 rfl) ?_
    refine g_6_1 C hk0 kf_X6_19 dX6_hasCell_6 ?_
    refine g_4_0 C (yk_6_1 hk0) kf_X6_226 dX6_hasCell_9 (fun v2 => ?_)
    refine q_icmp_ge C 19 dX6_hasCell_12 (by decide) ?_ ?_
    · refine q_iconst C dX6_hasCell_19 rfl (by decide) (fun v3 => ?_)
      exact q_zret C hr hlo dX6_hasCell_20
    · refine q_iconst C dX6_hasCell_15 rfl (by decide) (fun v4 => ?_)
      refine q_goto C 20 dX6_hasCell_16 (by decide) ?_
      exact q_zret C hr hlo dX6_hasCell_20
def f_X6_hasTick (F : Nat) (k0 : Nat) (a1 : Int) (σ : St) : Option (Int) :=
  z_ob 6 k0 <| 
  z_c1 (f_X4_exists F (k0 + 4) σ) fun v1 =>
  if v1 = 0 then (
    z_gt 0 fun v2 =>
    z_bo v2 <| some v2)
  else (
    if a1 < 0 then (
      z_gt 0 fun v3 =>
      z_bo v3 <| some v3)
    else (
      z_c1 (f_X4_size F (k0 + 4) σ) fun v4 =>
      if v4 < a1 then (
        z_gt 0 fun v5 =>
        z_bo v5 <| some v5)
      else (
        z_gt 1 fun v6 =>
        z_bo v6 <| some v6)))
theorem cb_X6_hasTick : CB yX6_hasTick cX6_hasTick 2 (some .boolean) 1 := ⟨ki_X6_hasTick, kq_X6_hasTick, kn_X6, kc_X6_hasTick, by decide +kernel, by decide +kernel, by decide +kernel⟩
set_option maxRecDepth 20000 in
set_option maxHeartbeats 4000000 in
theorem m_X6_hasTick (l : Launch) (G : GG) (F : Nat) (k0 : Nat) (a1 : Int32) (σ : St) : ∀ r, f_X6_hasTick F k0 a1.toInt σ = some r → MC G l yX6_hasTick cX6_hasTick 2 (some .boolean) { frames := 1, cells := 0, slots := 0, locals := 20 } [.ref (gad G k0), .int a1] σ (vI r) σ := by
  refine MC_of (own := RX6) (vI) (fun _ => σ) (by decide +kernel) rfl (Nat.le_of_ble_eq_true rfl) ?_
  intro p e s m args below meth c C hr hlo ls hl
  have hl : lv_has ls 2 [(0, .ref (gad G k0)), (1, .int a1)] := hl
  unfold f_X6_hasTick
  refine q_ob (fun hk0 => ?_)
  refine q_aload_n C dX6_hasTick_0 rfl (lv_at hl 0 rfl) ?_
  refine g_6_1 C hk0 kf_X6_19 dX6_hasTick_1 ?_
  refine q_c1i C (fun r h => cr_V (As := []) (rest := []) C (m_X4_exists l G F (k0 + 4) σ r h) cb_X4_exists (yk_6_1 hk0) (by decide) rfl (cf_4 (yk_6_1 hk0) _) rfl kl_X6_245 ⟨Nat.le_of_ble_eq_true rfl, Nat.le_of_ble_eq_true rfl⟩ ⟨Nat.zero_le _, Nat.zero_le _⟩ hl.1 rfl (Nat.le_of_ble_eq_true rfl) dX6_hasTick_4 rfl) (fun v1 => ?_)
  refine q_if_eq C 29 dX6_hasTick_7 (by decide) ?_ ?_
  · refine q_iconst C dX6_hasTick_29 rfl (by decide) (fun v2 => ?_)
    exact q_zret C hr hlo dX6_hasTick_30
  · refine q_iload_n C dX6_hasTick_10 rfl (lv_at hl 1 rfl) ?_
    refine q_if_lt C 29 dX6_hasTick_11 (by decide) ?_ ?_
    · refine q_iconst C dX6_hasTick_29 rfl (by decide) (fun v3 => ?_)
      exact q_zret C hr hlo dX6_hasTick_30
    · refine q_iload_n C dX6_hasTick_14 rfl (lv_at hl 1 rfl) ?_
      refine q_aload_n C dX6_hasTick_15 rfl (lv_at hl 0 rfl) ?_
      refine g_6_1 C hk0 kf_X6_19 dX6_hasTick_16 ?_
      refine q_c1i C (fun r h => cr_V (As := []) (rest := [.int a1]) C (m_X4_size l G F (k0 + 4) σ r h) cb_X4_size (yk_6_1 hk0) (by decide) rfl (cf_4 (yk_6_1 hk0) _) rfl kl_X6_249 ⟨Nat.le_of_ble_eq_true rfl, Nat.le_of_ble_eq_true rfl⟩ ⟨Nat.zero_le _, Nat.zero_le _⟩ hl.1 rfl (Nat.le_of_ble_eq_true rfl) dX6_hasTick_19 rfl) (fun v4 => ?_)
      refine q_icmp_gt C 29 dX6_hasTick_22 (by decide) ?_ ?_
      · refine q_iconst C dX6_hasTick_29 rfl (by decide) (fun v5 => ?_)
        exact q_zret C hr hlo dX6_hasTick_30
      · refine q_iconst C dX6_hasTick_25 rfl (by decide) (fun v6 => ?_)
        refine q_goto C 30 dX6_hasTick_26 (by decide) ?_
        exact q_zret C hr hlo dX6_hasTick_30
def f_X6_value (F : Nat) (k0 : Nat) (a1 : Int) (a2 : Int) (σ : St) : Option (Int × St) :=
  z_ob 6 k0 <| 
  z_c1 (f_X6_hasCell F k0 a1 σ) fun v1 =>
  if v1 = 0 then (
    z_gt (-2) fun v2 =>
    some (v2, σ))
  else (
    z_c1 (f_X6_hasTick F k0 a2 σ) fun v3 =>
    if ¬ v3 = 0 then (
      z_c1 (f_X6_playTo F k0 a2 σ) fun σ1 =>
      z_c1 (f_X0_cellAt F (k0 + 12 + 1) a1 σ1) fun v4 =>
      some (v4, σ1))
    else (
      z_gt (-2) fun v5 =>
      some (v5, σ)))
theorem cb_X6_value : CB yX6_value cX6_value 3 (some .int) 2 := ⟨ki_X6_value, kq_X6_value, kn_X6, kc_X6_value, by decide +kernel, by decide +kernel, by decide +kernel⟩
set_option maxRecDepth 20000 in
set_option maxHeartbeats 4000000 in
theorem m_X6_value (l : Launch) (G : GG) (F : Nat) (k0 : Nat) (a1 : Int32) (a2 : Int32) (σ : St) : ∀ r, f_X6_value F k0 a1.toInt a2.toInt σ = some r → MC G l yX6_value cX6_value 3 (some .int) { frames := 5, cells := 0, slots := 0, locals := 134 } [.ref (gad G k0), .int a1, .int a2] σ (vI r.1) r.2 := by
  refine MC_of (own := RX6) (fun r : Int × St => vI r.1) (fun r : Int × St => r.2) (by decide +kernel) rfl (Nat.le_of_ble_eq_true rfl) ?_
  intro p e s m args below meth c C hr hlo ls hl
  have hl : lv_has ls 3 [(0, .ref (gad G k0)), (1, .int a1), (2, .int a2)] := hl
  unfold f_X6_value
  refine q_ob (fun hk0 => ?_)
  refine q_aload_n C dX6_value_0 rfl (lv_at hl 0 rfl) ?_
  refine q_iload_n C dX6_value_1 rfl (lv_at hl 1 rfl) ?_
  refine q_c1i C (fun r h => cr_V (As := [.int a1]) (rest := []) C (m_X6_hasCell l G F k0 a1 σ r h) cb_X6_hasCell hk0 (by decide) rfl (cf_6 hk0 _) rfl kl_X6_114 ⟨Nat.le_of_ble_eq_true rfl, Nat.le_of_ble_eq_true rfl⟩ ⟨Nat.zero_le _, Nat.zero_le _⟩ hl.1 rfl (Nat.le_of_ble_eq_true rfl) dX6_value_2 rfl) (fun v1 => ?_)
  refine q_if_eq C 16 dX6_value_5 (by decide) ?_ ?_
  · refine q_bipush C dX6_value_16 rfl (by decide) (fun v2 => ?_)
    exact q_iretE C hr hlo dX6_value_18
  · refine q_aload_n C dX6_value_8 rfl (lv_at hl 0 rfl) ?_
    refine q_iload_n C dX6_value_9 rfl (lv_at hl 2 rfl) ?_
    refine q_c1i C (fun r h => cr_V (As := [.int a2]) (rest := []) C (m_X6_hasTick l G F k0 a2 σ r h) cb_X6_hasTick hk0 (by decide) rfl (cf_6 hk0 _) rfl kl_X6_117 ⟨Nat.le_of_ble_eq_true rfl, Nat.le_of_ble_eq_true rfl⟩ ⟨Nat.zero_le _, Nat.zero_le _⟩ hl.1 rfl (Nat.le_of_ble_eq_true rfl) dX6_value_10 rfl) (fun v3 => ?_)
    refine q_if_ne C 19 dX6_value_13 (by decide) ?_ ?_
    · refine q_aload_n C dX6_value_19 rfl (lv_at hl 0 rfl) ?_
      refine q_iload_n C dX6_value_20 rfl (lv_at hl 2 rfl) ?_
      refine q_cv C (fun r h => cr_V (As := [.int a2]) (rest := []) C (m_X6_playTo l G F k0 a2 σ r h) cb_X6_playTo hk0 (by decide) rfl (cf_6 hk0 _) rfl kl_X6_108 ⟨Nat.le_of_ble_eq_true rfl, Nat.le_of_ble_eq_true rfl⟩ ⟨Nat.zero_le _, Nat.zero_le _⟩ hl.1 rfl (Nat.le_of_ble_eq_true rfl) dX6_value_21 rfl) (fun σ1 => ?_)
      refine q_aload_n C dX6_value_24 rfl (lv_at hl 0 rfl) ?_
      refine g_6_5 C hk0 kf_X6_39 dX6_value_25 ?_
      refine g_3_0 C (yk_6_5 hk0) kf_X6_120 dX6_value_28 ?_
      refine q_iload_n C dX6_value_31 rfl (lv_at hl 1 rfl) ?_
      refine q_c1i C (fun r h => cr_V (As := [.int a1]) (rest := []) C (m_X0_cellAt l G F (k0 + 12 + 1) a1 σ1 r h) cb_X0_cellAt (yk_3_0 (yk_6_5 hk0)) (by decide) rfl (cf_0 (yk_3_0 (yk_6_5 hk0)) _) rfl kl_X6_123 ⟨Nat.le_of_ble_eq_true rfl, Nat.le_of_ble_eq_true rfl⟩ ⟨Nat.zero_le _, Nat.zero_le _⟩ hl.1 rfl (Nat.le_of_ble_eq_true rfl) dX6_value_32 rfl) (fun v4 => ?_)
      exact q_iretE C hr hlo dX6_value_35
    · refine q_bipush C dX6_value_16 rfl (by decide) (fun v5 => ?_)
      exact q_iretE C hr hlo dX6_value_18
def f_X6_sum (F : Nat) (k0 : Nat) (a1 : Int) (σ : St) : Option (Int × St) :=
  z_ob 6 k0 <| 
  z_c1 (f_X6_hasTick F k0 a1 σ) fun v1 =>
  if ¬ v1 = 0 then (
    z_c1 (f_X6_playTo F k0 a1 σ) fun σ1 =>
    z_c1 (f_X0_total F (k0 + 12 + 1) σ1) fun v2 =>
    some (v2, σ1))
  else (
    z_gt (-2) fun v3 =>
    some (v3, σ))
theorem cb_X6_sum : CB yX6_sum cX6_sum 2 (some .int) 1 := ⟨ki_X6_sum, kq_X6_sum, kn_X6, kc_X6_sum, by decide +kernel, by decide +kernel, by decide +kernel⟩
set_option maxRecDepth 20000 in
set_option maxHeartbeats 4000000 in
theorem m_X6_sum (l : Launch) (G : GG) (F : Nat) (k0 : Nat) (a1 : Int32) (σ : St) : ∀ r, f_X6_sum F k0 a1.toInt σ = some r → MC G l yX6_sum cX6_sum 2 (some .int) { frames := 5, cells := 0, slots := 0, locals := 134 } [.ref (gad G k0), .int a1] σ (vI r.1) r.2 := by
  refine MC_of (own := RX6) (fun r : Int × St => vI r.1) (fun r : Int × St => r.2) (by decide +kernel) rfl (Nat.le_of_ble_eq_true rfl) ?_
  intro p e s m args below meth c C hr hlo ls hl
  have hl : lv_has ls 2 [(0, .ref (gad G k0)), (1, .int a1)] := hl
  unfold f_X6_sum
  refine q_ob (fun hk0 => ?_)
  refine q_aload_n C dX6_sum_0 rfl (lv_at hl 0 rfl) ?_
  refine q_iload_n C dX6_sum_1 rfl (lv_at hl 1 rfl) ?_
  refine q_c1i C (fun r h => cr_V (As := [.int a1]) (rest := []) C (m_X6_hasTick l G F k0 a1 σ r h) cb_X6_hasTick hk0 (by decide) rfl (cf_6 hk0 _) rfl kl_X6_117 ⟨Nat.le_of_ble_eq_true rfl, Nat.le_of_ble_eq_true rfl⟩ ⟨Nat.zero_le _, Nat.zero_le _⟩ hl.1 rfl (Nat.le_of_ble_eq_true rfl) dX6_sum_2 rfl) (fun v1 => ?_)
  refine q_if_ne C 11 dX6_sum_5 (by decide) ?_ ?_
  · refine q_aload_n C dX6_sum_11 rfl (lv_at hl 0 rfl) ?_
    refine q_iload_n C dX6_sum_12 rfl (lv_at hl 1 rfl) ?_
    refine q_cv C (fun r h => cr_V (As := [.int a1]) (rest := []) C (m_X6_playTo l G F k0 a1 σ r h) cb_X6_playTo hk0 (by decide) rfl (cf_6 hk0 _) rfl kl_X6_108 ⟨Nat.le_of_ble_eq_true rfl, Nat.le_of_ble_eq_true rfl⟩ ⟨Nat.zero_le _, Nat.zero_le _⟩ hl.1 rfl (Nat.le_of_ble_eq_true rfl) dX6_sum_13 rfl) (fun σ1 => ?_)
    refine q_aload_n C dX6_sum_16 rfl (lv_at hl 0 rfl) ?_
    refine g_6_5 C hk0 kf_X6_39 dX6_sum_17 ?_
    refine g_3_0 C (yk_6_5 hk0) kf_X6_120 dX6_sum_20 ?_
    refine q_c1i C (fun r h => cr_V (As := []) (rest := []) C (m_X0_total l G F (k0 + 12 + 1) σ1 r h) cb_X0_total (yk_3_0 (yk_6_5 hk0)) (by decide) rfl (cf_0 (yk_3_0 (yk_6_5 hk0)) _) rfl kl_X6_126 ⟨Nat.le_of_ble_eq_true rfl, Nat.le_of_ble_eq_true rfl⟩ ⟨Nat.zero_le _, Nat.zero_le _⟩ hl.1 rfl (Nat.le_of_ble_eq_true rfl) dX6_sum_23 rfl) (fun v2 => ?_)
    exact q_iretE C hr hlo dX6_sum_26
  · refine q_bipush C dX6_sum_8 rfl (by decide) (fun v3 => ?_)
    exact q_iretE C hr hlo dX6_sum_10
def f_X6_changes (F : Nat) (k0 : Nat) (a1 : Int) (σ : St) : Option (Int × St) :=
  z_ob 6 k0 <| 
  z_c1 (f_X6_hasEvent F k0 a1 σ) fun v1 =>
  if ¬ v1 = 0 then (
    z_gt 1 fun v2 =>
    z_ck (a1 + v2) fun v3 =>
    z_c1 (f_X6_playTo F k0 v3 σ) fun σ1 =>
    z_gt (σ1 (k0 + 12) 6) fun v4 =>
    z_c1 (f_J6_bitCount_0f7a4 F v4 σ1) fun v5 =>
    some (v5, σ1))
  else (
    z_gt (-2) fun v6 =>
    some (v6, σ))
theorem cb_X6_changes : CB yX6_changes cX6_changes 2 (some .int) 1 := ⟨ki_X6_changes, kq_X6_changes, kn_X6, kc_X6_changes, by decide +kernel, by decide +kernel, by decide +kernel⟩
set_option maxRecDepth 20000 in
set_option maxHeartbeats 4000000 in
theorem m_X6_changes (l : Launch) (G : GG) (F : Nat) (k0 : Nat) (a1 : Int32) (σ : St) : ∀ r, f_X6_changes F k0 a1.toInt σ = some r → MC G l yX6_changes cX6_changes 2 (some .int) { frames := 5, cells := 0, slots := 0, locals := 134 } [.ref (gad G k0), .int a1] σ (vI r.1) r.2 := by
  refine MC_of (own := RX6) (fun r : Int × St => vI r.1) (fun r : Int × St => r.2) (by decide +kernel) rfl (Nat.le_of_ble_eq_true rfl) ?_
  intro p e s m args below meth c C hr hlo ls hl
  have hl : lv_has ls 2 [(0, .ref (gad G k0)), (1, .int a1)] := hl
  unfold f_X6_changes
  refine q_ob (fun hk0 => ?_)
  refine q_aload_n C dX6_changes_0 rfl (lv_at hl 0 rfl) ?_
  refine q_iload_n C dX6_changes_1 rfl (lv_at hl 1 rfl) ?_
  refine q_c1i C (fun r h => cr_V (As := [.int a1]) (rest := []) C (m_X6_hasEvent l G F k0 a1 σ r h) cb_X6_hasEvent hk0 (by decide) rfl (cf_6 hk0 _) rfl kl_X6_97 ⟨Nat.le_of_ble_eq_true rfl, Nat.le_of_ble_eq_true rfl⟩ ⟨Nat.zero_le _, Nat.zero_le _⟩ hl.1 rfl (Nat.le_of_ble_eq_true rfl) dX6_changes_2 rfl) (fun v1 => ?_)
  refine q_if_ne C 11 dX6_changes_5 (by decide) ?_ ?_
  · refine q_aload_n C dX6_changes_11 rfl (lv_at hl 0 rfl) ?_
    refine q_iload_n C dX6_changes_12 rfl (lv_at hl 1 rfl) ?_
    refine q_iconst C dX6_changes_13 rfl (by decide) (fun v2 => ?_)
    refine q_iadd C dX6_changes_14 (fun v3 => ?_)
    refine q_cv C (fun r h => cr_V (As := [.int v3]) (rest := []) C (m_X6_playTo l G F k0 v3 σ r h) cb_X6_playTo hk0 (by decide) rfl (cf_6 hk0 _) rfl kl_X6_108 ⟨Nat.le_of_ble_eq_true rfl, Nat.le_of_ble_eq_true rfl⟩ ⟨Nat.zero_le _, Nat.zero_le _⟩ hl.1 rfl (Nat.le_of_ble_eq_true rfl) dX6_changes_15 rfl) (fun σ1 => ?_)
    refine q_aload_n C dX6_changes_18 rfl (lv_at hl 0 rfl) ?_
    refine g_6_5 C hk0 kf_X6_39 dX6_changes_19 ?_
    refine g_3_6 C (yk_6_5 hk0) kf_X6_129 dX6_changes_22 (fun v4 => ?_)
    refine q_c1i C (fun r h => cr_S (As := [.int v4]) (rest := []) C (m_J6_bitCount_0f7a4 l G F v4 σ1 r h) sb_J6_bitCount_0f7a4 kl_X6_132 ⟨Nat.le_of_ble_eq_true rfl, Nat.le_of_ble_eq_true rfl⟩ ⟨Nat.zero_le _, Nat.zero_le _⟩ hl.1 rfl (Nat.le_of_ble_eq_true rfl) dX6_changes_25 rfl) (fun v5 => ?_)
    exact q_iretE C hr hlo dX6_changes_28
  · refine q_bipush C dX6_changes_8 rfl (by decide) (fun v6 => ?_)
    exact q_iretE C hr hlo dX6_changes_10
def f_X6_latest (F : Nat) (k0 : Nat) (a1 : Int) (a2 : Int) (σ : St) : Option (Int × St) :=
  z_ob 6 k0 <| 
  z_c1 (f_X6_hasCell F k0 a1 σ) fun v1 =>
  if v1 = 0 then (
    z_gt (-2) fun v2 =>
    some (v2, σ))
  else (
    z_c1 (f_X6_hasTick F k0 a2 σ) fun v3 =>
    if ¬ v3 = 0 then (
      z_c1 (f_X6_playTo F k0 a2 σ) fun σ1 =>
      z_c1 (f_X3_latestChange F (k0 + 12) a1 σ1) fun v4 =>
      some (v4, σ1))
    else (
      z_gt (-2) fun v5 =>
      some (v5, σ)))
theorem cb_X6_latest : CB yX6_latest cX6_latest 3 (some .int) 2 := ⟨ki_X6_latest, kq_X6_latest, kn_X6, kc_X6_latest, by decide +kernel, by decide +kernel, by decide +kernel⟩
set_option maxRecDepth 20000 in
set_option maxHeartbeats 4000000 in
theorem m_X6_latest (l : Launch) (G : GG) (F : Nat) (k0 : Nat) (a1 : Int32) (a2 : Int32) (σ : St) : ∀ r, f_X6_latest F k0 a1.toInt a2.toInt σ = some r → MC G l yX6_latest cX6_latest 3 (some .int) { frames := 5, cells := 0, slots := 0, locals := 134 } [.ref (gad G k0), .int a1, .int a2] σ (vI r.1) r.2 := by
  refine MC_of (own := RX6) (fun r : Int × St => vI r.1) (fun r : Int × St => r.2) (by decide +kernel) rfl (Nat.le_of_ble_eq_true rfl) ?_
  intro p e s m args below meth c C hr hlo ls hl
  have hl : lv_has ls 3 [(0, .ref (gad G k0)), (1, .int a1), (2, .int a2)] := hl
  unfold f_X6_latest
  refine q_ob (fun hk0 => ?_)
  refine q_aload_n C dX6_latest_0 rfl (lv_at hl 0 rfl) ?_
  refine q_iload_n C dX6_latest_1 rfl (lv_at hl 1 rfl) ?_
  refine q_c1i C (fun r h => cr_V (As := [.int a1]) (rest := []) C (m_X6_hasCell l G F k0 a1 σ r h) cb_X6_hasCell hk0 (by decide) rfl (cf_6 hk0 _) rfl kl_X6_114 ⟨Nat.le_of_ble_eq_true rfl, Nat.le_of_ble_eq_true rfl⟩ ⟨Nat.zero_le _, Nat.zero_le _⟩ hl.1 rfl (Nat.le_of_ble_eq_true rfl) dX6_latest_2 rfl) (fun v1 => ?_)
  refine q_if_eq C 16 dX6_latest_5 (by decide) ?_ ?_
  · refine q_bipush C dX6_latest_16 rfl (by decide) (fun v2 => ?_)
    exact q_iretE C hr hlo dX6_latest_18
  · refine q_aload_n C dX6_latest_8 rfl (lv_at hl 0 rfl) ?_
    refine q_iload_n C dX6_latest_9 rfl (lv_at hl 2 rfl) ?_
    refine q_c1i C (fun r h => cr_V (As := [.int a2]) (rest := []) C (m_X6_hasTick l G F k0 a2 σ r h) cb_X6_hasTick hk0 (by decide) rfl (cf_6 hk0 _) rfl kl_X6_117 ⟨Nat.le_of_ble_eq_true rfl, Nat.le_of_ble_eq_true rfl⟩ ⟨Nat.zero_le _, Nat.zero_le _⟩ hl.1 rfl (Nat.le_of_ble_eq_true rfl) dX6_latest_10 rfl) (fun v3 => ?_)
    refine q_if_ne C 19 dX6_latest_13 (by decide) ?_ ?_
    · refine q_aload_n C dX6_latest_19 rfl (lv_at hl 0 rfl) ?_
      refine q_iload_n C dX6_latest_20 rfl (lv_at hl 2 rfl) ?_
      refine q_cv C (fun r h => cr_V (As := [.int a2]) (rest := []) C (m_X6_playTo l G F k0 a2 σ r h) cb_X6_playTo hk0 (by decide) rfl (cf_6 hk0 _) rfl kl_X6_108 ⟨Nat.le_of_ble_eq_true rfl, Nat.le_of_ble_eq_true rfl⟩ ⟨Nat.zero_le _, Nat.zero_le _⟩ hl.1 rfl (Nat.le_of_ble_eq_true rfl) dX6_latest_21 rfl) (fun σ1 => ?_)
      refine q_aload_n C dX6_latest_24 rfl (lv_at hl 0 rfl) ?_
      refine g_6_5 C hk0 kf_X6_39 dX6_latest_25 ?_
      refine q_iload_n C dX6_latest_28 rfl (lv_at hl 1 rfl) ?_
      refine q_c1i C (fun r h => cr_V (As := [.int a1]) (rest := []) C (m_X3_latestChange l G F (k0 + 12) a1 σ1 r h) cb_X3_latestChange (yk_6_5 hk0) (by decide) rfl (cf_3 (yk_6_5 hk0) _) rfl kl_X6_137 ⟨Nat.le_of_ble_eq_true rfl, Nat.le_of_ble_eq_true rfl⟩ ⟨Nat.zero_le _, Nat.zero_le _⟩ hl.1 rfl (Nat.le_of_ble_eq_true rfl) dX6_latest_29 rfl) (fun v4 => ?_)
      exact q_iretE C hr hlo dX6_latest_32
    · refine q_bipush C dX6_latest_16 rfl (by decide) (fun v5 => ?_)
      exact q_iretE C hr hlo dX6_latest_18
def f_X6_dirty (F : Nat) (k0 : Nat) (a1 : Int) (a2 : Int) (σ : St) : Option (Int × St) :=
  z_ob 6 k0 <| 
  z_c1 (f_X6_hasCell F k0 a1 σ) fun v1 =>
  if v1 = 0 then (
    z_gt (-2) fun v2 =>
    some (v2, σ))
  else (
    z_c1 (f_X6_hasTick F k0 a2 σ) fun v3 =>
    if ¬ v3 = 0 then (
      z_c1 (f_X6_playTo F k0 a2 σ) fun σ1 =>
      z_gt (σ1 (k0 + 12) 2) fun v4 =>
      z_c1 (f_X6_holds F v4 a1 σ1) fun v5 =>
      if v5 = 0 then (
        z_gt 0 fun v6 =>
        some (v6, σ1))
      else (
        z_gt 1 fun v7 =>
        some (v7, σ1)))
    else (
      z_gt (-2) fun v8 =>
      some (v8, σ)))
theorem cb_X6_dirty : CB yX6_dirty cX6_dirty 3 (some .int) 2 := ⟨ki_X6_dirty, kq_X6_dirty, kn_X6, kc_X6_dirty, by decide +kernel, by decide +kernel, by decide +kernel⟩
set_option maxRecDepth 20000 in
set_option maxHeartbeats 4000000 in
theorem m_X6_dirty (l : Launch) (G : GG) (F : Nat) (k0 : Nat) (a1 : Int32) (a2 : Int32) (σ : St) : ∀ r, f_X6_dirty F k0 a1.toInt a2.toInt σ = some r → MC G l yX6_dirty cX6_dirty 3 (some .int) { frames := 5, cells := 0, slots := 0, locals := 134 } [.ref (gad G k0), .int a1, .int a2] σ (vI r.1) r.2 := by
  refine MC_of (own := RX6) (fun r : Int × St => vI r.1) (fun r : Int × St => r.2) (by decide +kernel) rfl (Nat.le_of_ble_eq_true rfl) ?_
  intro p e s m args below meth c C hr hlo ls hl
  have hl : lv_has ls 3 [(0, .ref (gad G k0)), (1, .int a1), (2, .int a2)] := hl
  unfold f_X6_dirty
  refine q_ob (fun hk0 => ?_)
  refine q_aload_n C dX6_dirty_0 rfl (lv_at hl 0 rfl) ?_
  refine q_iload_n C dX6_dirty_1 rfl (lv_at hl 1 rfl) ?_
  refine q_c1i C (fun r h => cr_V (As := [.int a1]) (rest := []) C (m_X6_hasCell l G F k0 a1 σ r h) cb_X6_hasCell hk0 (by decide) rfl (cf_6 hk0 _) rfl kl_X6_114 ⟨Nat.le_of_ble_eq_true rfl, Nat.le_of_ble_eq_true rfl⟩ ⟨Nat.zero_le _, Nat.zero_le _⟩ hl.1 rfl (Nat.le_of_ble_eq_true rfl) dX6_dirty_2 rfl) (fun v1 => ?_)
  refine q_if_eq C 16 dX6_dirty_5 (by decide) ?_ ?_
  · refine q_bipush C dX6_dirty_16 rfl (by decide) (fun v2 => ?_)
    exact q_iretE C hr hlo dX6_dirty_18
  · refine q_aload_n C dX6_dirty_8 rfl (lv_at hl 0 rfl) ?_
    refine q_iload_n C dX6_dirty_9 rfl (lv_at hl 2 rfl) ?_
    refine q_c1i C (fun r h => cr_V (As := [.int a2]) (rest := []) C (m_X6_hasTick l G F k0 a2 σ r h) cb_X6_hasTick hk0 (by decide) rfl (cf_6 hk0 _) rfl kl_X6_117 ⟨Nat.le_of_ble_eq_true rfl, Nat.le_of_ble_eq_true rfl⟩ ⟨Nat.zero_le _, Nat.zero_le _⟩ hl.1 rfl (Nat.le_of_ble_eq_true rfl) dX6_dirty_10 rfl) (fun v3 => ?_)
    refine q_if_ne C 19 dX6_dirty_13 (by decide) ?_ ?_
    · refine q_aload_n C dX6_dirty_19 rfl (lv_at hl 0 rfl) ?_
      refine q_iload_n C dX6_dirty_20 rfl (lv_at hl 2 rfl) ?_
      refine q_cv C (fun r h => cr_V (As := [.int a2]) (rest := []) C (m_X6_playTo l G F k0 a2 σ r h) cb_X6_playTo hk0 (by decide) rfl (cf_6 hk0 _) rfl kl_X6_108 ⟨Nat.le_of_ble_eq_true rfl, Nat.le_of_ble_eq_true rfl⟩ ⟨Nat.zero_le _, Nat.zero_le _⟩ hl.1 rfl (Nat.le_of_ble_eq_true rfl) dX6_dirty_21 rfl) (fun σ1 => ?_)
      refine q_aload_n C dX6_dirty_24 rfl (lv_at hl 0 rfl) ?_
      refine g_6_5 C hk0 kf_X6_39 dX6_dirty_25 ?_
      refine g_3_2 C (yk_6_5 hk0) kf_X6_140 dX6_dirty_28 (fun v4 => ?_)
      refine q_iload_n C dX6_dirty_31 rfl (lv_at hl 1 rfl) ?_
      refine q_c1i C (fun r h => cr_S (As := [.int v4, .int a1]) (rest := []) C (m_X6_holds l G F v4 a1 σ1 r h) sb_X6_holds kl_X6_143 ⟨Nat.le_of_ble_eq_true rfl, Nat.le_of_ble_eq_true rfl⟩ ⟨Nat.zero_le _, Nat.zero_le _⟩ hl.1 rfl (Nat.le_of_ble_eq_true rfl) dX6_dirty_32 rfl) (fun v5 => ?_)
      refine q_if_eq C 42 dX6_dirty_35 (by decide) ?_ ?_
      · refine q_iconst C dX6_dirty_42 rfl (by decide) (fun v6 => ?_)
        exact q_iretE C hr hlo dX6_dirty_43
      · refine q_iconst C dX6_dirty_38 rfl (by decide) (fun v7 => ?_)
        refine q_goto C 43 dX6_dirty_39 (by decide) ?_
        exact q_iretE C hr hlo dX6_dirty_43
    · refine q_bipush C dX6_dirty_16 rfl (by decide) (fun v8 => ?_)
      exact q_iretE C hr hlo dX6_dirty_18
def f_X6_dirties (F : Nat) (k0 : Nat) (a1 : Int) (σ : St) : Option (Int × St) :=
  z_ob 6 k0 <| 
  z_c1 (f_X6_hasTick F k0 a1 σ) fun v1 =>
  if ¬ v1 = 0 then (
    z_c1 (f_X6_playTo F k0 a1 σ) fun σ1 =>
    z_gt (σ1 (k0 + 12) 2) fun v2 =>
    z_c1 (f_J6_bitCount_0f7a4 F v2 σ1) fun v3 =>
    some (v3, σ1))
  else (
    z_gt (-2) fun v4 =>
    some (v4, σ))
theorem cb_X6_dirties : CB yX6_dirties cX6_dirties 2 (some .int) 1 := ⟨ki_X6_dirties, kq_X6_dirties, kn_X6, kc_X6_dirties, by decide +kernel, by decide +kernel, by decide +kernel⟩
set_option maxRecDepth 20000 in
set_option maxHeartbeats 4000000 in
theorem m_X6_dirties (l : Launch) (G : GG) (F : Nat) (k0 : Nat) (a1 : Int32) (σ : St) : ∀ r, f_X6_dirties F k0 a1.toInt σ = some r → MC G l yX6_dirties cX6_dirties 2 (some .int) { frames := 5, cells := 0, slots := 0, locals := 134 } [.ref (gad G k0), .int a1] σ (vI r.1) r.2 := by
  refine MC_of (own := RX6) (fun r : Int × St => vI r.1) (fun r : Int × St => r.2) (by decide +kernel) rfl (Nat.le_of_ble_eq_true rfl) ?_
  intro p e s m args below meth c C hr hlo ls hl
  have hl : lv_has ls 2 [(0, .ref (gad G k0)), (1, .int a1)] := hl
  unfold f_X6_dirties
  refine q_ob (fun hk0 => ?_)
  refine q_aload_n C dX6_dirties_0 rfl (lv_at hl 0 rfl) ?_
  refine q_iload_n C dX6_dirties_1 rfl (lv_at hl 1 rfl) ?_
  refine q_c1i C (fun r h => cr_V (As := [.int a1]) (rest := []) C (m_X6_hasTick l G F k0 a1 σ r h) cb_X6_hasTick hk0 (by decide) rfl (cf_6 hk0 _) rfl kl_X6_117 ⟨Nat.le_of_ble_eq_true rfl, Nat.le_of_ble_eq_true rfl⟩ ⟨Nat.zero_le _, Nat.zero_le _⟩ hl.1 rfl (Nat.le_of_ble_eq_true rfl) dX6_dirties_2 rfl) (fun v1 => ?_)
  refine q_if_ne C 11 dX6_dirties_5 (by decide) ?_ ?_
  · refine q_aload_n C dX6_dirties_11 rfl (lv_at hl 0 rfl) ?_
    refine q_iload_n C dX6_dirties_12 rfl (lv_at hl 1 rfl) ?_
    refine q_cv C (fun r h => cr_V (As := [.int a1]) (rest := []) C (m_X6_playTo l G F k0 a1 σ r h) cb_X6_playTo hk0 (by decide) rfl (cf_6 hk0 _) rfl kl_X6_108 ⟨Nat.le_of_ble_eq_true rfl, Nat.le_of_ble_eq_true rfl⟩ ⟨Nat.zero_le _, Nat.zero_le _⟩ hl.1 rfl (Nat.le_of_ble_eq_true rfl) dX6_dirties_13 rfl) (fun σ1 => ?_)
    refine q_aload_n C dX6_dirties_16 rfl (lv_at hl 0 rfl) ?_
    refine g_6_5 C hk0 kf_X6_39 dX6_dirties_17 ?_
    refine g_3_2 C (yk_6_5 hk0) kf_X6_140 dX6_dirties_20 (fun v2 => ?_)
    refine q_c1i C (fun r h => cr_S (As := [.int v2]) (rest := []) C (m_J6_bitCount_0f7a4 l G F v2 σ1 r h) sb_J6_bitCount_0f7a4 kl_X6_132 ⟨Nat.le_of_ble_eq_true rfl, Nat.le_of_ble_eq_true rfl⟩ ⟨Nat.zero_le _, Nat.zero_le _⟩ hl.1 rfl (Nat.le_of_ble_eq_true rfl) dX6_dirties_23 rfl) (fun v3 => ?_)
    exact q_iretE C hr hlo dX6_dirties_26
  · refine q_bipush C dX6_dirties_8 rfl (by decide) (fun v4 => ?_)
    exact q_iretE C hr hlo dX6_dirties_10
def f_X6_hasLevel (F : Nat) (a1 : Int) (σ : St) : Option (Int) :=
  
  if a1 < 0 then (
    z_gt 0 fun v1 =>
    z_bo v1 <| some v1)
  else (
    z_gt 5 fun v2 =>
    if v2 < a1 then (
      z_gt 0 fun v3 =>
      z_bo v3 <| some v3)
    else (
      z_gt 1 fun v4 =>
      z_bo v4 <| some v4))
theorem sb_X6_hasLevel : SB yX6_hasLevel cX6_hasLevel 1 (some .boolean) 1 := ⟨ks_X6_hasLevel, kn_X6, kc_X6_hasLevel, by decide +kernel, by decide +kernel, by decide +kernel⟩
set_option maxRecDepth 20000 in
set_option maxHeartbeats 4000000 in
theorem m_X6_hasLevel (l : Launch) (G : GG) (F : Nat) (a1 : Int32) (σ : St) : ∀ r, f_X6_hasLevel F a1.toInt σ = some r → MC G l yX6_hasLevel cX6_hasLevel 1 (some .boolean) { frames := 0, cells := 0, slots := 0, locals := 0 } [.int a1] σ (vI r) σ := by
  refine MC_of (own := RX6) (vI) (fun _ => σ) (by decide +kernel) rfl (Nat.le_of_ble_eq_true rfl) ?_
  intro p e s m args below meth c C hr hlo ls hl
  have hl : lv_has ls 1 [(0, .int a1)] := hl
  unfold f_X6_hasLevel
  refine q_iload_n C dX6_hasLevel_0 rfl (lv_at hl 0 rfl) ?_
  refine q_if_lt C 13 dX6_hasLevel_1 (by decide) ?_ ?_
  · refine q_iconst C dX6_hasLevel_13 rfl (by decide) (fun v1 => ?_)
    exact q_zret C hr hlo dX6_hasLevel_14
  · refine q_iload_n C dX6_hasLevel_4 rfl (lv_at hl 0 rfl) ?_
    refine q_iconst C dX6_hasLevel_5 rfl (by decide) (fun v2 => ?_)
    refine q_icmp_gt C 13 dX6_hasLevel_6 (by decide) ?_ ?_
    · refine q_iconst C dX6_hasLevel_13 rfl (by decide) (fun v3 => ?_)
      exact q_zret C hr hlo dX6_hasLevel_14
    · refine q_iconst C dX6_hasLevel_9 rfl (by decide) (fun v4 => ?_)
      refine q_goto C 14 dX6_hasLevel_10 (by decide) ?_
      exact q_zret C hr hlo dX6_hasLevel_14
def f_X6_regionCells (F : Nat) (a1 : Int) (a2 : Int) (σ : St) : Option (Int) :=
  
  z_gt 1 fun v1 =>
  z_gt 1 fun v2 =>
  z_gt (z_shl v2 a1) fun v3 =>
  z_gt (z_lshl v1 v3) fun v4 =>
  z_gt 1 fun v5 =>
  z_lk (v4 - v5) fun v6 =>
  z_gt (z_shl a2 a1) fun v7 =>
  z_gt (z_lshl v6 v7) fun v8 =>
  z_gt (z_l2i v8) fun v9 =>
  some v9
theorem sb_X6_regionCells : SB yX6_regionCells cX6_regionCells 2 (some .int) 2 := ⟨ks_X6_regionCells, kn_X6, kc_X6_regionCells, by decide +kernel, by decide +kernel, by decide +kernel⟩
set_option maxRecDepth 20000 in
set_option maxHeartbeats 4000000 in
theorem m_X6_regionCells (l : Launch) (G : GG) (F : Nat) (a1 : Int32) (a2 : Int32) (σ : St) : ∀ r, f_X6_regionCells F a1.toInt a2.toInt σ = some r → MC G l yX6_regionCells cX6_regionCells 2 (some .int) { frames := 0, cells := 0, slots := 0, locals := 0 } [.int a1, .int a2] σ (vI r) σ := by
  refine MC_of (own := RX6) (vI) (fun _ => σ) (by decide +kernel) rfl (Nat.le_of_ble_eq_true rfl) ?_
  intro p e s m args below meth c C hr hlo ls hl
  have hl : lv_has ls 2 [(0, .int a1), (1, .int a2)] := hl
  unfold f_X6_regionCells
  refine q_lconst C dX6_regionCells_0 rfl (by decide) (fun v1 => ?_)
  refine q_iconst C dX6_regionCells_1 rfl (by decide) (fun v2 => ?_)
  refine q_iload_n C dX6_regionCells_2 rfl (lv_at hl 0 rfl) ?_
  refine q_ishl C dX6_regionCells_3 (fun v3 => ?_)
  refine q_lshl C dX6_regionCells_4 (fun v4 => ?_)
  refine q_lconst C dX6_regionCells_5 rfl (by decide) (fun v5 => ?_)
  refine q_lsub C dX6_regionCells_6 (fun v6 => ?_)
  refine q_iload_n C dX6_regionCells_7 rfl (lv_at hl 1 rfl) ?_
  refine q_iload_n C dX6_regionCells_8 rfl (lv_at hl 0 rfl) ?_
  refine q_ishl C dX6_regionCells_9 (fun v7 => ?_)
  refine q_lshl C dX6_regionCells_10 (fun v8 => ?_)
  refine q_l2i C dX6_regionCells_11 (fun v9 => ?_)
  exact q_iret C hr hlo dX6_regionCells_12
def f_X6_region (F : Nat) (k0 : Nat) (a1 : Int) (a2 : Int) (a3 : Int) (σ : St) : Option (Int × St) :=
  z_ob 6 k0 <| 
  z_c1 (f_X6_hasTick F k0 a3 σ) fun v1 =>
  if v1 = 0 then (
    z_gt (-2) fun v2 =>
    some (v2, σ))
  else (
    z_c1 (f_X6_hasLevel F a1 σ) fun v3 =>
    if v3 = 0 then (
      z_gt (-2) fun v4 =>
      some (v4, σ))
    else (
      if a2 < 0 then (
        z_gt (-2) fun v5 =>
        some (v5, σ))
      else (
        z_gt 32 fun v6 =>
        z_gt (z_shr v6 a1) fun v7 =>
        if a2 < v7 then (
          z_c1 (f_X6_playTo F k0 a3 σ) fun σ1 =>
          z_gt (σ1 (k0 + 12) 2) fun v8 =>
          z_c1 (f_X6_regionCells F a1 a2 σ1) fun v9 =>
          z_gt (z_and v8 v9) fun v10 =>
          if v10 = 0 then (
            z_gt 0 fun v11 =>
            some (v11, σ1))
          else (
            z_gt 1 fun v12 =>
            some (v12, σ1)))
        else (
          z_gt (-2) fun v13 =>
          some (v13, σ)))))
theorem cb_X6_region : CB yX6_region cX6_region 4 (some .int) 3 := ⟨ki_X6_region, kq_X6_region, kn_X6, kc_X6_region, by decide +kernel, by decide +kernel, by decide +kernel⟩
set_option maxRecDepth 20000 in
set_option maxHeartbeats 4000000 in
theorem m_X6_region (l : Launch) (G : GG) (F : Nat) (k0 : Nat) (a1 : Int32) (a2 : Int32) (a3 : Int32) (σ : St) : ∀ r, f_X6_region F k0 a1.toInt a2.toInt a3.toInt σ = some r → MC G l yX6_region cX6_region 4 (some .int) { frames := 5, cells := 0, slots := 0, locals := 134 } [.ref (gad G k0), .int a1, .int a2, .int a3] σ (vI r.1) r.2 := by
  refine MC_of (own := RX6) (fun r : Int × St => vI r.1) (fun r : Int × St => r.2) (by decide +kernel) rfl (Nat.le_of_ble_eq_true rfl) ?_
  intro p e s m args below meth c C hr hlo ls hl
  have hl : lv_has ls 4 [(0, .ref (gad G k0)), (1, .int a1), (2, .int a2), (3, .int a3)] := hl
  unfold f_X6_region
  refine q_ob (fun hk0 => ?_)
  refine q_aload_n C dX6_region_0 rfl (lv_at hl 0 rfl) ?_
  refine q_iload_n C dX6_region_1 rfl (lv_at hl 3 rfl) ?_
  refine q_c1i C (fun r h => cr_V (As := [.int a3]) (rest := []) C (m_X6_hasTick l G F k0 a3 σ r h) cb_X6_hasTick hk0 (by decide) rfl (cf_6 hk0 _) rfl kl_X6_117 ⟨Nat.le_of_ble_eq_true rfl, Nat.le_of_ble_eq_true rfl⟩ ⟨Nat.zero_le _, Nat.zero_le _⟩ hl.1 rfl (Nat.le_of_ble_eq_true rfl) dX6_region_2 rfl) (fun v1 => ?_)
  refine q_if_eq C 27 dX6_region_5 (by decide) ?_ ?_
  · refine q_bipush C dX6_region_27 rfl (by decide) (fun v2 => ?_)
    exact q_iretE C hr hlo dX6_region_29
  · refine q_iload_n C dX6_region_8 rfl (lv_at hl 1 rfl) ?_
    refine q_c1i C (fun r h => cr_S (As := [.int a1]) (rest := []) C (m_X6_hasLevel l G F a1 σ r h) sb_X6_hasLevel kl_X6_147 ⟨Nat.le_of_ble_eq_true rfl, Nat.le_of_ble_eq_true rfl⟩ ⟨Nat.zero_le _, Nat.zero_le _⟩ hl.1 rfl (Nat.le_of_ble_eq_true rfl) dX6_region_9 rfl) (fun v3 => ?_)
    refine q_if_eq C 27 dX6_region_12 (by decide) ?_ ?_
    · refine q_bipush C dX6_region_27 rfl (by decide) (fun v4 => ?_)
      exact q_iretE C hr hlo dX6_region_29
    · refine q_iload_n C dX6_region_15 rfl (lv_at hl 2 rfl) ?_
      refine q_if_lt C 27 dX6_region_16 (by decide) ?_ ?_
      · refine q_bipush C dX6_region_27 rfl (by decide) (fun v5 => ?_)
        exact q_iretE C hr hlo dX6_region_29
      · refine q_iload_n C dX6_region_19 rfl (lv_at hl 2 rfl) ?_
        refine q_bipush C dX6_region_20 rfl (by decide) (fun v6 => ?_)
        refine q_iload_n C dX6_region_22 rfl (lv_at hl 1 rfl) ?_
        refine q_ishr C dX6_region_23 (fun v7 => ?_)
        refine q_icmp_lt C 30 dX6_region_24 (by decide) ?_ ?_
        · refine q_aload_n C dX6_region_30 rfl (lv_at hl 0 rfl) ?_
          refine q_iload_n C dX6_region_31 rfl (lv_at hl 3 rfl) ?_
          refine q_cv C (fun r h => cr_V (As := [.int a3]) (rest := []) C (m_X6_playTo l G F k0 a3 σ r h) cb_X6_playTo hk0 (by decide) rfl (cf_6 hk0 _) rfl kl_X6_108 ⟨Nat.le_of_ble_eq_true rfl, Nat.le_of_ble_eq_true rfl⟩ ⟨Nat.zero_le _, Nat.zero_le _⟩ hl.1 rfl (Nat.le_of_ble_eq_true rfl) dX6_region_32 rfl) (fun σ1 => ?_)
          refine q_aload_n C dX6_region_35 rfl (lv_at hl 0 rfl) ?_
          refine g_6_5 C hk0 kf_X6_39 dX6_region_36 ?_
          refine g_3_2 C (yk_6_5 hk0) kf_X6_140 dX6_region_39 (fun v8 => ?_)
          refine q_iload_n C dX6_region_42 rfl (lv_at hl 1 rfl) ?_
          refine q_iload_n C dX6_region_43 rfl (lv_at hl 2 rfl) ?_
          refine q_c1i C (fun r h => cr_S (As := [.int a1, .int a2]) (rest := [.int v8]) C (m_X6_regionCells l G F a1 a2 σ1 r h) sb_X6_regionCells kl_X6_150 ⟨Nat.le_of_ble_eq_true rfl, Nat.le_of_ble_eq_true rfl⟩ ⟨Nat.zero_le _, Nat.zero_le _⟩ hl.1 rfl (Nat.le_of_ble_eq_true rfl) dX6_region_44 rfl) (fun v9 => ?_)
          refine q_iand C dX6_region_47 (fun v10 => ?_)
          refine q_if_eq C 55 dX6_region_48 (by decide) ?_ ?_
          · refine q_iconst C dX6_region_55 rfl (by decide) (fun v11 => ?_)
            exact q_iretE C hr hlo dX6_region_56
          · refine q_iconst C dX6_region_51 rfl (by decide) (fun v12 => ?_)
            refine q_goto C 56 dX6_region_52 (by decide) ?_
            exact q_iretE C hr hlo dX6_region_56
        · refine q_bipush C dX6_region_27 rfl (by decide) (fun v13 => ?_)
          exact q_iretE C hr hlo dX6_region_29
def f_X6_dirtyRegions_L4 (F : Nat) (a1 : Int) (a2 : Int)  (σ : St) : Nat → Int → Int → Option (Int)
  | 0, _, _ => none
  | n + 1, x3, x4 =>
    z_gt 32 fun v5 =>
    z_gt (z_shr v5 a1) fun v6 =>
    if v6 ≤ x4 then (
      some x3)
    else (
      z_c1 (f_X6_regionCells F a1 x4 σ) fun v7 =>
      z_gt (z_and a2 v7) fun v8 =>
      if v8 = 0 then (
        z_ck (x4 + 1) fun v9 =>
        f_X6_dirtyRegions_L4 F a1 a2 σ n x3 v9)
      else (
        z_ck (x3 + 1) fun v10 =>
        z_ck (x4 + 1) fun v11 =>
        f_X6_dirtyRegions_L4 F a1 a2 σ n v10 v11))

def f_X6_dirtyRegions (F : Nat) (a1 : Int) (a2 : Int) (σ : St) : Option (Int) :=
  
  z_gt 0 fun v1 =>
  z_gt 0 fun v2 =>
  f_X6_dirtyRegions_L4 F a1 a2 σ F v1 v2
theorem sb_X6_dirtyRegions : SB yX6_dirtyRegions cX6_dirtyRegions 4 (some .int) 2 := ⟨ks_X6_dirtyRegions, kn_X6, kc_X6_dirtyRegions, by decide +kernel, by decide +kernel, by decide +kernel⟩
set_option maxRecDepth 20000 in
set_option maxHeartbeats 4000000 in
theorem m_X6_dirtyRegions (l : Launch) (G : GG) (F : Nat) (a1 : Int32) (a2 : Int32) (σ : St) : ∀ r, f_X6_dirtyRegions F a1.toInt a2.toInt σ = some r → MC G l yX6_dirtyRegions cX6_dirtyRegions 4 (some .int) { frames := 1, cells := 0, slots := 0, locals := 21 } [.int a1, .int a2] σ (vI r) σ := by
  refine MC_of (own := RX6) (vI) (fun _ => σ) (by decide +kernel) rfl (Nat.le_of_ble_eq_true rfl) ?_
  intro p e s m args below meth c C hr hlo ls hl
  have hl : lv_has ls 4 [(0, .int a1), (1, .int a2)] := hl
  unfold f_X6_dirtyRegions
  have B4 : ∀ (n : Nat) (x3 : Int32) (x4 : Int32) (ls : Array Slot), lv_has ls 4 [(0, .int a1), (1, .int a2), (2, .int x3), (3, .int x4)] → Sim G (AG G) 0 0 p l e { frames := 1, cells := 0, slots := 0, locals := 21 } s m args below meth c (fun r : Int => MQ below (QC G (vI r) (σ)) args s 0 0 (AG G)) σ (f_X6_dirtyRegions_L4 F a1.toInt a2.toInt  σ n x3.toInt x4.toInt) (F0 m 4 ls []) := by
    intro n
    induction n with
    | zero =>
      intro x3 x4 ls hl
      exact sim_none
    | succ n ih =>
      intro x3 x4 ls hl
      rw [f_X6_dirtyRegions_L4]
      refine q_iload_n C dX6_dirtyRegions_4 rfl (lv_at hl 3 rfl) ?_
      refine q_bipush C dX6_dirtyRegions_5 rfl (by decide) (fun v5 => ?_)
      refine q_iload_n C dX6_dirtyRegions_7 rfl (lv_at hl 0 rfl) ?_
      refine q_ishr C dX6_dirtyRegions_8 (fun v6 => ?_)
      refine q_icmp_ge C 31 dX6_dirtyRegions_9 (by decide) ?_ ?_
      · refine q_iload_n C dX6_dirtyRegions_31 rfl (lv_at hl 2 rfl) ?_
        exact q_iret C hr hlo dX6_dirtyRegions_32
      · refine q_iload_n C dX6_dirtyRegions_12 rfl (lv_at hl 1 rfl) ?_
        refine q_iload_n C dX6_dirtyRegions_13 rfl (lv_at hl 0 rfl) ?_
        refine q_iload_n C dX6_dirtyRegions_14 rfl (lv_at hl 3 rfl) ?_
        refine q_c1i C (fun r h => cr_S (As := [.int a1, .int x4]) (rest := [.int a2]) C (m_X6_regionCells l G F a1 x4 σ r h) sb_X6_regionCells kl_X6_150 ⟨Nat.le_of_ble_eq_true rfl, Nat.le_of_ble_eq_true rfl⟩ ⟨Nat.zero_le _, Nat.zero_le _⟩ hl.1 rfl (Nat.le_of_ble_eq_true rfl) dX6_dirtyRegions_15 rfl) (fun v7 => ?_)
        refine q_iand C dX6_dirtyRegions_18 (fun v8 => ?_)
        refine q_if_eq C 25 dX6_dirtyRegions_19 (by decide) ?_ ?_
        · refine q_iinc (k := 3) C (fun v9 => [(3, .int v9), (0, .int a1), (1, .int a2), (2, .int x3)]) dX6_dirtyRegions_25 hl rfl (by decide) (by decide) (fun _ => rfl) (fun v9 ls hl => ?_)
          refine q_goto C 4 dX6_dirtyRegions_28 (by decide) ?_
          exact ih x3 v9 ls (lv_sub hl [1, 2, 3, 0] rfl)
        · refine q_iinc (k := 2) C (fun v10 => [(2, .int v10), (0, .int a1), (1, .int a2), (3, .int x4)]) dX6_dirtyRegions_22 hl rfl (by decide) (by decide) (fun _ => rfl) (fun v10 ls hl => ?_)
          refine q_iinc (k := 3) C (fun v11 => [(3, .int v11), (2, .int v10), (0, .int a1), (1, .int a2)]) dX6_dirtyRegions_25 hl rfl (by decide) (by decide) (fun _ => rfl) (fun v11 ls hl => ?_)
          refine q_goto C 4 dX6_dirtyRegions_28 (by decide) ?_
          exact ih v10 v11 ls (lv_sub hl [2, 3, 1, 0] rfl)
  refine q_iconst C dX6_dirtyRegions_0 rfl (by decide) (fun v1 => ?_)
  refine q_istore_n C [(2, .int v1), (0, .int a1), (1, .int a2)] dX6_dirtyRegions_1 rfl hl (by decide) rfl (fun ls hl => ?_)
  refine q_iconst C dX6_dirtyRegions_2 rfl (by decide) (fun v2 => ?_)
  refine q_istore_n C [(3, .int v2), (2, .int v1), (0, .int a1), (1, .int a2)] dX6_dirtyRegions_3 rfl hl (by decide) rfl (fun ls hl => ?_)
  exact B4 F v1 v2 ls (lv_sub hl [2, 3, 1, 0] rfl)
def f_X6_regions (F : Nat) (k0 : Nat) (a1 : Int) (a2 : Int) (σ : St) : Option (Int × St) :=
  z_ob 6 k0 <| 
  z_c1 (f_X6_hasTick F k0 a2 σ) fun v1 =>
  if v1 = 0 then (
    z_gt (-2) fun v2 =>
    some (v2, σ))
  else (
    z_c1 (f_X6_hasLevel F a1 σ) fun v3 =>
    if ¬ v3 = 0 then (
      z_c1 (f_X6_playTo F k0 a2 σ) fun σ1 =>
      z_gt (σ1 (k0 + 12) 2) fun v4 =>
      z_c1 (f_X6_dirtyRegions F a1 v4 σ1) fun v5 =>
      some (v5, σ1))
    else (
      z_gt (-2) fun v6 =>
      some (v6, σ)))
theorem cb_X6_regions : CB yX6_regions cX6_regions 3 (some .int) 2 := ⟨ki_X6_regions, kq_X6_regions, kn_X6, kc_X6_regions, by decide +kernel, by decide +kernel, by decide +kernel⟩
set_option maxRecDepth 20000 in
set_option maxHeartbeats 4000000 in
theorem m_X6_regions (l : Launch) (G : GG) (F : Nat) (k0 : Nat) (a1 : Int32) (a2 : Int32) (σ : St) : ∀ r, f_X6_regions F k0 a1.toInt a2.toInt σ = some r → MC G l yX6_regions cX6_regions 3 (some .int) { frames := 5, cells := 0, slots := 0, locals := 134 } [.ref (gad G k0), .int a1, .int a2] σ (vI r.1) r.2 := by
  refine MC_of (own := RX6) (fun r : Int × St => vI r.1) (fun r : Int × St => r.2) (by decide +kernel) rfl (Nat.le_of_ble_eq_true rfl) ?_
  intro p e s m args below meth c C hr hlo ls hl
  have hl : lv_has ls 3 [(0, .ref (gad G k0)), (1, .int a1), (2, .int a2)] := hl
  unfold f_X6_regions
  refine q_ob (fun hk0 => ?_)
  refine q_aload_n C dX6_regions_0 rfl (lv_at hl 0 rfl) ?_
  refine q_iload_n C dX6_regions_1 rfl (lv_at hl 2 rfl) ?_
  refine q_c1i C (fun r h => cr_V (As := [.int a2]) (rest := []) C (m_X6_hasTick l G F k0 a2 σ r h) cb_X6_hasTick hk0 (by decide) rfl (cf_6 hk0 _) rfl kl_X6_117 ⟨Nat.le_of_ble_eq_true rfl, Nat.le_of_ble_eq_true rfl⟩ ⟨Nat.zero_le _, Nat.zero_le _⟩ hl.1 rfl (Nat.le_of_ble_eq_true rfl) dX6_regions_2 rfl) (fun v1 => ?_)
  refine q_if_eq C 15 dX6_regions_5 (by decide) ?_ ?_
  · refine q_bipush C dX6_regions_15 rfl (by decide) (fun v2 => ?_)
    exact q_iretE C hr hlo dX6_regions_17
  · refine q_iload_n C dX6_regions_8 rfl (lv_at hl 1 rfl) ?_
    refine q_c1i C (fun r h => cr_S (As := [.int a1]) (rest := []) C (m_X6_hasLevel l G F a1 σ r h) sb_X6_hasLevel kl_X6_147 ⟨Nat.le_of_ble_eq_true rfl, Nat.le_of_ble_eq_true rfl⟩ ⟨Nat.zero_le _, Nat.zero_le _⟩ hl.1 rfl (Nat.le_of_ble_eq_true rfl) dX6_regions_9 rfl) (fun v3 => ?_)
    refine q_if_ne C 18 dX6_regions_12 (by decide) ?_ ?_
    · refine q_aload_n C dX6_regions_18 rfl (lv_at hl 0 rfl) ?_
      refine q_iload_n C dX6_regions_19 rfl (lv_at hl 2 rfl) ?_
      refine q_cv C (fun r h => cr_V (As := [.int a2]) (rest := []) C (m_X6_playTo l G F k0 a2 σ r h) cb_X6_playTo hk0 (by decide) rfl (cf_6 hk0 _) rfl kl_X6_108 ⟨Nat.le_of_ble_eq_true rfl, Nat.le_of_ble_eq_true rfl⟩ ⟨Nat.zero_le _, Nat.zero_le _⟩ hl.1 rfl (Nat.le_of_ble_eq_true rfl) dX6_regions_20 rfl) (fun σ1 => ?_)
      refine q_iload_n C dX6_regions_23 rfl (lv_at hl 1 rfl) ?_
      refine q_aload_n C dX6_regions_24 rfl (lv_at hl 0 rfl) ?_
      refine g_6_5 C hk0 kf_X6_39 dX6_regions_25 ?_
      refine g_3_2 C (yk_6_5 hk0) kf_X6_140 dX6_regions_28 (fun v4 => ?_)
      refine q_c1i C (fun r h => cr_S (As := [.int a1, .int v4]) (rest := []) C (m_X6_dirtyRegions l G F a1 v4 σ1 r h) sb_X6_dirtyRegions kl_X6_153 ⟨Nat.le_of_ble_eq_true rfl, Nat.le_of_ble_eq_true rfl⟩ ⟨Nat.zero_le _, Nat.zero_le _⟩ hl.1 rfl (Nat.le_of_ble_eq_true rfl) dX6_regions_31 rfl) (fun v5 => ?_)
      exact q_iretE C hr hlo dX6_regions_34
    · refine q_bipush C dX6_regions_15 rfl (by decide) (fun v6 => ?_)
      exact q_iretE C hr hlo dX6_regions_17
def f_X6_looks_L20 (F : Nat) (k0 : Nat) (a1 : Int)   : Nat → Int → Int → St → Option (Int × St)
  | 0, _, _, _ => none
  | n + 1, x4, x5, σ =>
    z_gt 5 fun v6 =>
    if v6 < x5 then (
      some (x4, σ))
    else (
      z_gt 2 fun v7 =>
      z_gt (σ (k0 + 12) 2) fun v8 =>
      z_c1 (f_X6_dirtyRegions F x5 v8 σ) fun v9 =>
      z_ck (v7 * v9) fun v10 =>
      z_ck (x4 + v10) fun v11 =>
      z_ck (x5 + 1) fun v12 =>
      f_X6_looks_L20 F k0 a1 n v11 v12 σ)

def f_X6_looks (F : Nat) (k0 : Nat) (a1 : Int) (σ : St) : Option (Int × St) :=
  z_ob 6 k0 <| 
  z_c1 (f_X6_hasTick F k0 a1 σ) fun v1 =>
  if ¬ v1 = 0 then (
    z_c1 (f_X6_playTo F k0 a1 σ) fun σ1 =>
    z_gt 1 fun v2 =>
    z_gt 1 fun v3 =>
    f_X6_looks_L20 F k0 a1 F v2 v3 σ1)
  else (
    z_gt (-2) fun v13 =>
    some (v13, σ))
theorem cb_X6_looks : CB yX6_looks cX6_looks 4 (some .int) 1 := ⟨ki_X6_looks, kq_X6_looks, kn_X6, kc_X6_looks, by decide +kernel, by decide +kernel, by decide +kernel⟩
set_option maxRecDepth 20000 in
set_option maxHeartbeats 4000000 in
theorem m_X6_looks (l : Launch) (G : GG) (F : Nat) (k0 : Nat) (a1 : Int32) (σ : St) : ∀ r, f_X6_looks F k0 a1.toInt σ = some r → MC G l yX6_looks cX6_looks 4 (some .int) { frames := 5, cells := 0, slots := 0, locals := 134 } [.ref (gad G k0), .int a1] σ (vI r.1) r.2 := by
  refine MC_of (own := RX6) (fun r : Int × St => vI r.1) (fun r : Int × St => r.2) (by decide +kernel) rfl (Nat.le_of_ble_eq_true rfl) ?_
  intro p e s m args below meth c C hr hlo ls hl
  have hl : lv_has ls 4 [(0, .ref (gad G k0)), (1, .int a1)] := hl
  unfold f_X6_looks
  refine q_ob (fun hk0 => ?_)
  have B20 : ∀ (n : Nat) (x4 : Int32) (x5 : Int32) (σ : St) (ls : Array Slot), lv_has ls 4 [(0, .ref (gad G k0)), (2, .int x4), (3, .int x5)] → Sim G (AG G) 0 0 p l e { frames := 5, cells := 0, slots := 0, locals := 134 } s m args below meth c (fun r : Int × St => MQ below (QC G (vI r.1) (r.2)) args s 0 0 (AG G)) σ (f_X6_looks_L20 F k0 a1.toInt   n x4.toInt x5.toInt σ) (F0 m 20 ls []) := by
    intro n
    induction n with
    | zero =>
      intro x4 x5 σ ls hl
      exact sim_none
    | succ n ih =>
      intro x4 x5 σ ls hl
      rw [f_X6_looks_L20]
      refine q_iload_n C dX6_looks_20 rfl (lv_at hl 2 rfl) ?_
      refine q_iconst C dX6_looks_21 rfl (by decide) (fun v6 => ?_)
      refine q_icmp_gt C 47 dX6_looks_22 (by decide) ?_ ?_
      · refine q_iload_n C dX6_looks_47 rfl (lv_at hl 1 rfl) ?_
        exact q_iretE C hr hlo dX6_looks_48
      · refine q_iload_n C dX6_looks_25 rfl (lv_at hl 1 rfl) ?_
        refine q_iconst C dX6_looks_26 rfl (by decide) (fun v7 => ?_)
        refine q_iload_n C dX6_looks_27 rfl (lv_at hl 2 rfl) ?_
        refine q_aload_n C dX6_looks_28 rfl (lv_at hl 0 rfl) ?_
        refine g_6_5 C hk0 kf_X6_39 dX6_looks_29 ?_
        refine g_3_2 C (yk_6_5 hk0) kf_X6_140 dX6_looks_32 (fun v8 => ?_)
        refine q_c1i C (fun r h => cr_S (As := [.int x5, .int v8]) (rest := [.int v7, .int x4]) C (m_X6_dirtyRegions l G F x5 v8 σ r h) sb_X6_dirtyRegions kl_X6_153 ⟨Nat.le_of_ble_eq_true rfl, Nat.le_of_ble_eq_true rfl⟩ ⟨Nat.zero_le _, Nat.zero_le _⟩ hl.1 rfl (Nat.le_of_ble_eq_true rfl) dX6_looks_35 rfl) (fun v9 => ?_)
        refine q_imul C dX6_looks_38 (fun v10 => ?_)
        refine q_iadd C dX6_looks_39 (fun v11 => ?_)
        refine q_istore_n C [(2, .int v11), (0, .ref (gad G k0)), (3, .int x5)] dX6_looks_40 rfl hl (by decide) rfl (fun ls hl => ?_)
        refine q_iinc (k := 2) C (fun v12 => [(3, .int v12), (2, .int v11), (0, .ref (gad G k0))]) dX6_looks_41 hl rfl (by decide) (by decide) (fun _ => rfl) (fun v12 ls hl => ?_)
        refine q_goto C 20 dX6_looks_44 (by decide) ?_
        exact ih v11 v12 σ ls (lv_sub hl [2, 1, 0] rfl)
  refine q_aload_n C dX6_looks_0 rfl (lv_at hl 0 rfl) ?_
  refine q_iload_n C dX6_looks_1 rfl (lv_at hl 1 rfl) ?_
  refine q_c1i C (fun r h => cr_V (As := [.int a1]) (rest := []) C (m_X6_hasTick l G F k0 a1 σ r h) cb_X6_hasTick hk0 (by decide) rfl (cf_6 hk0 _) rfl kl_X6_117 ⟨Nat.le_of_ble_eq_true rfl, Nat.le_of_ble_eq_true rfl⟩ ⟨Nat.zero_le _, Nat.zero_le _⟩ hl.1 rfl (Nat.le_of_ble_eq_true rfl) dX6_looks_2 rfl) (fun v1 => ?_)
  refine q_if_ne C 11 dX6_looks_5 (by decide) ?_ ?_
  · refine q_aload_n C dX6_looks_11 rfl (lv_at hl 0 rfl) ?_
    refine q_iload_n C dX6_looks_12 rfl (lv_at hl 1 rfl) ?_
    refine q_cv C (fun r h => cr_V (As := [.int a1]) (rest := []) C (m_X6_playTo l G F k0 a1 σ r h) cb_X6_playTo hk0 (by decide) rfl (cf_6 hk0 _) rfl kl_X6_108 ⟨Nat.le_of_ble_eq_true rfl, Nat.le_of_ble_eq_true rfl⟩ ⟨Nat.zero_le _, Nat.zero_le _⟩ hl.1 rfl (Nat.le_of_ble_eq_true rfl) dX6_looks_13 rfl) (fun σ1 => ?_)
    refine q_iconst C dX6_looks_16 rfl (by decide) (fun v2 => ?_)
    refine q_istore_n C [(2, .int v2), (0, .ref (gad G k0)), (1, .int a1)] dX6_looks_17 rfl hl (by decide) rfl (fun ls hl => ?_)
    refine q_iconst C dX6_looks_18 rfl (by decide) (fun v3 => ?_)
    refine q_istore_n C [(3, .int v3), (2, .int v2), (0, .ref (gad G k0)), (1, .int a1)] dX6_looks_19 rfl hl (by decide) rfl (fun ls hl => ?_)
    exact B20 F v2 v3 σ1 ls (lv_sub hl [2, 1, 0] rfl)
  · refine q_bipush C dX6_looks_8 rfl (by decide) (fun v13 => ?_)
    exact q_iretE C hr hlo dX6_looks_10
def f_X6_copies (F : Nat) (k0 : Nat) (a1 : Int) (σ : St) : Option (Int × St) :=
  z_ob 6 k0 <| 
  z_c1 (f_X6_hasTick F k0 a1 σ) fun v1 =>
  if ¬ v1 = 0 then (
    z_c1 (f_X6_playTo F k0 a1 σ) fun σ1 =>
    z_gt (σ1 (k0 + 12) 3) fun v2 =>
    some (v2, σ1))
  else (
    z_gt (-2) fun v3 =>
    some (v3, σ))
theorem cb_X6_copies : CB yX6_copies cX6_copies 2 (some .int) 1 := ⟨ki_X6_copies, kq_X6_copies, kn_X6, kc_X6_copies, by decide +kernel, by decide +kernel, by decide +kernel⟩
set_option maxRecDepth 20000 in
set_option maxHeartbeats 4000000 in
theorem m_X6_copies (l : Launch) (G : GG) (F : Nat) (k0 : Nat) (a1 : Int32) (σ : St) : ∀ r, f_X6_copies F k0 a1.toInt σ = some r → MC G l yX6_copies cX6_copies 2 (some .int) { frames := 5, cells := 0, slots := 0, locals := 134 } [.ref (gad G k0), .int a1] σ (vI r.1) r.2 := by
  refine MC_of (own := RX6) (fun r : Int × St => vI r.1) (fun r : Int × St => r.2) (by decide +kernel) rfl (Nat.le_of_ble_eq_true rfl) ?_
  intro p e s m args below meth c C hr hlo ls hl
  have hl : lv_has ls 2 [(0, .ref (gad G k0)), (1, .int a1)] := hl
  unfold f_X6_copies
  refine q_ob (fun hk0 => ?_)
  refine q_aload_n C dX6_copies_0 rfl (lv_at hl 0 rfl) ?_
  refine q_iload_n C dX6_copies_1 rfl (lv_at hl 1 rfl) ?_
  refine q_c1i C (fun r h => cr_V (As := [.int a1]) (rest := []) C (m_X6_hasTick l G F k0 a1 σ r h) cb_X6_hasTick hk0 (by decide) rfl (cf_6 hk0 _) rfl kl_X6_117 ⟨Nat.le_of_ble_eq_true rfl, Nat.le_of_ble_eq_true rfl⟩ ⟨Nat.zero_le _, Nat.zero_le _⟩ hl.1 rfl (Nat.le_of_ble_eq_true rfl) dX6_copies_2 rfl) (fun v1 => ?_)
  refine q_if_ne C 11 dX6_copies_5 (by decide) ?_ ?_
  · refine q_aload_n C dX6_copies_11 rfl (lv_at hl 0 rfl) ?_
    refine q_iload_n C dX6_copies_12 rfl (lv_at hl 1 rfl) ?_
    refine q_cv C (fun r h => cr_V (As := [.int a1]) (rest := []) C (m_X6_playTo l G F k0 a1 σ r h) cb_X6_playTo hk0 (by decide) rfl (cf_6 hk0 _) rfl kl_X6_108 ⟨Nat.le_of_ble_eq_true rfl, Nat.le_of_ble_eq_true rfl⟩ ⟨Nat.zero_le _, Nat.zero_le _⟩ hl.1 rfl (Nat.le_of_ble_eq_true rfl) dX6_copies_13 rfl) (fun σ1 => ?_)
    refine q_aload_n C dX6_copies_16 rfl (lv_at hl 0 rfl) ?_
    refine g_6_5 C hk0 kf_X6_39 dX6_copies_17 ?_
    refine g_3_3 C (yk_6_5 hk0) kf_X6_156 dX6_copies_20 (fun v2 => ?_)
    exact q_iretE C hr hlo dX6_copies_23
  · refine q_bipush C dX6_copies_8 rfl (by decide) (fun v3 => ?_)
    exact q_iretE C hr hlo dX6_copies_10
def f_X6_open (F : Nat) (k0 : Nat) (a1 : Int) (σ : St) : Option (Int × St) :=
  z_ob 6 k0 <| 
  z_c1 (f_X6_hasTick F k0 a1 σ) fun v1 =>
  if ¬ v1 = 0 then (
    z_c1 (f_X6_playTo F k0 a1 σ) fun σ1 =>
    z_gt (σ1 (k0 + 12) 4) fun v2 =>
    some (v2, σ1))
  else (
    z_gt (-2) fun v3 =>
    some (v3, σ))
theorem cb_X6_open : CB yX6_open cX6_open 2 (some .int) 1 := ⟨ki_X6_open, kq_X6_open, kn_X6, kc_X6_open, by decide +kernel, by decide +kernel, by decide +kernel⟩
set_option maxRecDepth 20000 in
set_option maxHeartbeats 4000000 in
theorem m_X6_open (l : Launch) (G : GG) (F : Nat) (k0 : Nat) (a1 : Int32) (σ : St) : ∀ r, f_X6_open F k0 a1.toInt σ = some r → MC G l yX6_open cX6_open 2 (some .int) { frames := 5, cells := 0, slots := 0, locals := 134 } [.ref (gad G k0), .int a1] σ (vI r.1) r.2 := by
  refine MC_of (own := RX6) (fun r : Int × St => vI r.1) (fun r : Int × St => r.2) (by decide +kernel) rfl (Nat.le_of_ble_eq_true rfl) ?_
  intro p e s m args below meth c C hr hlo ls hl
  have hl : lv_has ls 2 [(0, .ref (gad G k0)), (1, .int a1)] := hl
  unfold f_X6_open
  refine q_ob (fun hk0 => ?_)
  refine q_aload_n C dX6_open_0 rfl (lv_at hl 0 rfl) ?_
  refine q_iload_n C dX6_open_1 rfl (lv_at hl 1 rfl) ?_
  refine q_c1i C (fun r h => cr_V (As := [.int a1]) (rest := []) C (m_X6_hasTick l G F k0 a1 σ r h) cb_X6_hasTick hk0 (by decide) rfl (cf_6 hk0 _) rfl kl_X6_117 ⟨Nat.le_of_ble_eq_true rfl, Nat.le_of_ble_eq_true rfl⟩ ⟨Nat.zero_le _, Nat.zero_le _⟩ hl.1 rfl (Nat.le_of_ble_eq_true rfl) dX6_open_2 rfl) (fun v1 => ?_)
  refine q_if_ne C 11 dX6_open_5 (by decide) ?_ ?_
  · refine q_aload_n C dX6_open_11 rfl (lv_at hl 0 rfl) ?_
    refine q_iload_n C dX6_open_12 rfl (lv_at hl 1 rfl) ?_
    refine q_cv C (fun r h => cr_V (As := [.int a1]) (rest := []) C (m_X6_playTo l G F k0 a1 σ r h) cb_X6_playTo hk0 (by decide) rfl (cf_6 hk0 _) rfl kl_X6_108 ⟨Nat.le_of_ble_eq_true rfl, Nat.le_of_ble_eq_true rfl⟩ ⟨Nat.zero_le _, Nat.zero_le _⟩ hl.1 rfl (Nat.le_of_ble_eq_true rfl) dX6_open_13 rfl) (fun σ1 => ?_)
    refine q_aload_n C dX6_open_16 rfl (lv_at hl 0 rfl) ?_
    refine g_6_5 C hk0 kf_X6_39 dX6_open_17 ?_
    refine g_3_4 C (yk_6_5 hk0) kf_X6_159 dX6_open_20 (fun v2 => ?_)
    exact q_iretE C hr hlo dX6_open_23
  · refine q_bipush C dX6_open_8 rfl (by decide) (fun v3 => ?_)
    exact q_iretE C hr hlo dX6_open_10
def f_X6_copyAtLast (F : Nat) (k0 : Nat) (a1 : Int) (σ : St) : Option (Option Nat × St) :=
  z_ob 6 k0 <| 
  z_c1 (f_X4_size F (k0 + 4) σ) fun v1 =>
  z_c1 (f_X6_playTo F k0 v1 σ) fun σ1 =>
  z_ca (f_X3_copyOf F (k0 + 12) a1 σ1) (
    some (none, σ1)) fun k2 => z_ob 1 k2 <|
  some (some k2, σ1)
theorem cb_X6_copyAtLast : CB yX6_copyAtLast cX6_copyAtLast 2 (some (.object "CopyWhileRun$Copy")) 1 := ⟨ki_X6_copyAtLast, kq_X6_copyAtLast, kn_X6, kc_X6_copyAtLast, by decide +kernel, by decide +kernel, by decide +kernel⟩
set_option maxRecDepth 20000 in
set_option maxHeartbeats 4000000 in
theorem m_X6_copyAtLast (l : Launch) (G : GG) (F : Nat) (k0 : Nat) (a1 : Int32) (σ : St) : ∀ r, f_X6_copyAtLast F k0 a1.toInt σ = some r → MC G l yX6_copyAtLast cX6_copyAtLast 2 (some (.object "CopyWhileRun$Copy")) { frames := 5, cells := 0, slots := 0, locals := 134 } [.ref (gad G k0), .int a1] σ (vA G r.1) r.2 := by
  refine MC_of (own := RX6) (fun r : Option Nat × St => vA G r.1) (fun r : Option Nat × St => r.2) (by decide +kernel) rfl (Nat.le_of_ble_eq_true rfl) ?_
  intro p e s m args below meth c C hr hlo ls hl
  have hl : lv_has ls 2 [(0, .ref (gad G k0)), (1, .int a1)] := hl
  unfold f_X6_copyAtLast
  refine q_ob (fun hk0 => ?_)
  refine q_aload_n C dX6_copyAtLast_0 rfl (lv_at hl 0 rfl) ?_
  refine q_aload_n C dX6_copyAtLast_1 rfl (lv_at hl 0 rfl) ?_
  refine g_6_1 C hk0 kf_X6_19 dX6_copyAtLast_2 ?_
  refine q_c1i C (fun r h => cr_V (As := []) (rest := [.ref (gad G k0)]) C (m_X4_size l G F (k0 + 4) σ r h) cb_X4_size (yk_6_1 hk0) (by decide) rfl (cf_4 (yk_6_1 hk0) _) rfl kl_X6_249 ⟨Nat.le_of_ble_eq_true rfl, Nat.le_of_ble_eq_true rfl⟩ ⟨Nat.zero_le _, Nat.zero_le _⟩ hl.1 rfl (Nat.le_of_ble_eq_true rfl) dX6_copyAtLast_5 rfl) (fun v1 => ?_)
  refine q_cv C (fun r h => cr_V (As := [.int v1]) (rest := []) C (m_X6_playTo l G F k0 v1 σ r h) cb_X6_playTo hk0 (by decide) rfl (cf_6 hk0 _) rfl kl_X6_108 ⟨Nat.le_of_ble_eq_true rfl, Nat.le_of_ble_eq_true rfl⟩ ⟨Nat.zero_le _, Nat.zero_le _⟩ hl.1 rfl (Nat.le_of_ble_eq_true rfl) dX6_copyAtLast_8 rfl) (fun σ1 => ?_)
  refine q_aload_n C dX6_copyAtLast_11 rfl (lv_at hl 0 rfl) ?_
  refine g_6_5 C hk0 kf_X6_39 dX6_copyAtLast_12 ?_
  refine q_iload_n C dX6_copyAtLast_15 rfl (lv_at hl 1 rfl) ?_
  refine q_ca C (fun r h => cr_V (As := [.int a1]) (rest := []) C (m_X3_copyOf l G F (k0 + 12) a1 σ1 r h) cb_X3_copyOf (yk_6_5 hk0) (by decide) rfl (cf_3 (yk_6_5 hk0) _) rfl kl_X6_199 ⟨Nat.le_of_ble_eq_true rfl, Nat.le_of_ble_eq_true rfl⟩ ⟨Nat.zero_le _, Nat.zero_le _⟩ hl.1 rfl (Nat.le_of_ble_eq_true rfl) dX6_copyAtLast_16 rfl) ?_ (fun k2 => q_ob (fun hk2 => ?_))
  · exact q_aretNE C hr hlo dX6_copyAtLast_19
  · exact q_aretE C hr hlo dX6_copyAtLast_19
def f_X6_copy (F : Nat) (k0 : Nat) (a1 : Int) (a2 : Int) (σ : St) : Option (Int × St) :=
  z_ob 6 k0 <| 
  z_cb (f_X6_copyAtLast F k0 a1 σ) (fun σ1 =>
    z_gt (-2) fun v2 =>
    some (v2, σ1)) fun k1 σ2 => z_ob 1 k1 <|
  if a2 < 0 then (
    z_gt (-2) fun v3 =>
    some (v3, σ2))
  else (
    z_gt 6 fun v4 =>
    if a2 ≤ v4 then (
      if a2 = 0 then (
        z_gt (σ2 k1 0) fun v5 =>
        if v5 = 0 then (
          z_gt 0 fun v6 =>
          some (v6, σ2))
        else (
          z_gt 1 fun v7 =>
          some (v7, σ2)))
      else
      if a2 = 1 then (
        z_gt (σ2 k1 1) fun v8 =>
        some (v8, σ2))
      else
      if a2 = 2 then (
        z_gt (σ2 k1 2) fun v9 =>
        some (v9, σ2))
      else
      if a2 = 3 then (
        z_gt (σ2 k1 4) fun v10 =>
        z_c1 (f_J6_bitCount_0f7a4 F v10 σ2) fun v11 =>
        some (v11, σ2))
      else
      if a2 = 4 then (
        z_gt (σ2 k1 7) fun v12 =>
        some (v12, σ2))
      else
      if a2 = 5 then (
        z_gt (σ2 k1 6) fun v13 =>
        z_c1 (f_J6_bitCount_0f7a4 F v13 σ2) fun v14 =>
        some (v14, σ2))
      else
      (
        z_gt (σ2 k1 3) fun v15 =>
        some (v15, σ2)))
    else (
      z_gt (-2) fun v16 =>
      some (v16, σ2)))
theorem cb_X6_copy : CB yX6_copy cX6_copy 4 (some .int) 2 := ⟨ki_X6_copy, kq_X6_copy, kn_X6, kc_X6_copy, by decide +kernel, by decide +kernel, by decide +kernel⟩
set_option maxRecDepth 20000 in
set_option maxHeartbeats 4000000 in
theorem m_X6_copy (l : Launch) (G : GG) (F : Nat) (k0 : Nat) (a1 : Int32) (a2 : Int32) (σ : St) : ∀ r, f_X6_copy F k0 a1.toInt a2.toInt σ = some r → MC G l yX6_copy cX6_copy 4 (some .int) { frames := 6, cells := 0, slots := 0, locals := 155 } [.ref (gad G k0), .int a1, .int a2] σ (vI r.1) r.2 := by
  refine MC_of (own := RX6) (fun r : Int × St => vI r.1) (fun r : Int × St => r.2) (by decide +kernel) rfl (Nat.le_of_ble_eq_true rfl) ?_
  intro p e s m args below meth c C hr hlo ls hl
  have hl : lv_has ls 4 [(0, .ref (gad G k0)), (1, .int a1), (2, .int a2)] := hl
  unfold f_X6_copy
  refine q_ob (fun hk0 => ?_)
  refine q_aload_n C dX6_copy_0 rfl (lv_at hl 0 rfl) ?_
  refine q_iload_n C dX6_copy_1 rfl (lv_at hl 1 rfl) ?_
  refine q_cb C (fun r h => cr_V (As := [.int a1]) (rest := []) C (m_X6_copyAtLast l G F k0 a1 σ r h) cb_X6_copyAtLast hk0 (by decide) rfl (cf_6 hk0 _) rfl kl_X6_162 ⟨Nat.le_of_ble_eq_true rfl, Nat.le_of_ble_eq_true rfl⟩ ⟨Nat.zero_le _, Nat.zero_le _⟩ hl.1 rfl (Nat.le_of_ble_eq_true rfl) dX6_copy_2 rfl) (fun σ1 => ?_) (fun k1 σ2 => q_ob (fun hk1 => ?_))
  · refine q_astore_nN C [(3, .null), (0, .ref (gad G k0)), (1, .int a1), (2, .int a2)] dX6_copy_5 rfl hl (by decide) rfl (fun ls hl => ?_)
    refine q_aload_nN C dX6_copy_6 rfl (lv_at hl 0 rfl) ?_
    refine q_ifnullN C 20 dX6_copy_7 (by decide) ?_
    refine q_bipush C dX6_copy_20 rfl (by decide) (fun v2 => ?_)
    exact q_iretE C hr hlo dX6_copy_22
  · refine q_astore_n C [(3, .ref (gad G k1)), (0, .ref (gad G k0)), (1, .int a1), (2, .int a2)] dX6_copy_5 rfl hl (by decide) rfl (fun ls hl => ?_)
    refine q_aload_n C dX6_copy_6 rfl (lv_at hl 0 rfl) ?_
    refine q_ifnull C dX6_copy_7 ?_
    refine q_iload_n C dX6_copy_10 rfl (lv_at hl 3 rfl) ?_
    refine q_if_lt C 20 dX6_copy_11 (by decide) ?_ ?_
    · refine q_bipush C dX6_copy_20 rfl (by decide) (fun v3 => ?_)
      exact q_iretE C hr hlo dX6_copy_22
    · refine q_iload_n C dX6_copy_14 rfl (lv_at hl 3 rfl) ?_
      refine q_bipush C dX6_copy_15 rfl (by decide) (fun v4 => ?_)
      refine q_icmp_le C 23 dX6_copy_17 (by decide) ?_ ?_
      · refine q_iload_n C dX6_copy_23 rfl (lv_at hl 3 rfl) ?_
        refine q_ite (fun e0 => ?_) (fun e0 => ?_) _
        · refine q_tin C 64 e0 dX6_copy_24 (by decide) (by decide) rfl (by decide) ?_
          refine q_aload_n C dX6_copy_64 rfl (lv_at hl 0 rfl) ?_
          refine g_1_0 C hk1 kf_X6_166 dX6_copy_65 (fun v5 => ?_)
          refine q_if_eq C 75 dX6_copy_68 (by decide) ?_ ?_
          · refine q_iconst C dX6_copy_75 rfl (by decide) (fun v6 => ?_)
            exact q_iretE C hr hlo dX6_copy_76
          · refine q_iconst C dX6_copy_71 rfl (by decide) (fun v7 => ?_)
            refine q_goto C 76 dX6_copy_72 (by decide) ?_
            exact q_iretE C hr hlo dX6_copy_76
        refine q_ite (fun e1 => ?_) (fun e1 => ?_) _
        · refine q_tin C 77 e1 dX6_copy_24 (by decide) (by decide) rfl (by decide) ?_
          refine q_aload_n C dX6_copy_77 rfl (lv_at hl 0 rfl) ?_
          refine g_1_1 C hk1 kf_X6_172 dX6_copy_78 (fun v8 => ?_)
          exact q_iretE C hr hlo dX6_copy_81
        refine q_ite (fun e2 => ?_) (fun e2 => ?_) _
        · refine q_tin C 82 e2 dX6_copy_24 (by decide) (by decide) rfl (by decide) ?_
          refine q_aload_n C dX6_copy_82 rfl (lv_at hl 0 rfl) ?_
          refine g_1_2 C hk1 kf_X6_175 dX6_copy_83 (fun v9 => ?_)
          exact q_iretE C hr hlo dX6_copy_86
        refine q_ite (fun e3 => ?_) (fun e3 => ?_) _
        · refine q_tin C 87 e3 dX6_copy_24 (by decide) (by decide) rfl (by decide) ?_
          refine q_aload_n C dX6_copy_87 rfl (lv_at hl 0 rfl) ?_
          refine g_1_4 C hk1 kf_X6_178 dX6_copy_88 (fun v10 => ?_)
          refine q_c1i C (fun r h => cr_S (As := [.int v10]) (rest := []) C (m_J6_bitCount_0f7a4 l G F v10 σ2 r h) sb_J6_bitCount_0f7a4 kl_X6_132 ⟨Nat.le_of_ble_eq_true rfl, Nat.le_of_ble_eq_true rfl⟩ ⟨Nat.zero_le _, Nat.zero_le _⟩ hl.1 rfl (Nat.le_of_ble_eq_true rfl) dX6_copy_91 rfl) (fun v11 => ?_)
          exact q_iretE C hr hlo dX6_copy_94
        refine q_ite (fun e4 => ?_) (fun e4 => ?_) _
        · refine q_tin C 95 e4 dX6_copy_24 (by decide) (by decide) rfl (by decide) ?_
          refine q_aload_n C dX6_copy_95 rfl (lv_at hl 0 rfl) ?_
          refine g_1_7 C hk1 kf_X6_181 dX6_copy_96 (fun v12 => ?_)
          exact q_iretE C hr hlo dX6_copy_99
        refine q_ite (fun e5 => ?_) (fun e5 => ?_) _
        · refine q_tin C 100 e5 dX6_copy_24 (by decide) (by decide) rfl (by decide) ?_
          refine q_aload_n C dX6_copy_100 rfl (lv_at hl 0 rfl) ?_
          refine g_1_6 C hk1 kf_X6_184 dX6_copy_101 (fun v13 => ?_)
          refine q_c1i C (fun r h => cr_S (As := [.int v13]) (rest := []) C (m_J6_bitCount_0f7a4 l G F v13 σ2 r h) sb_J6_bitCount_0f7a4 kl_X6_132 ⟨Nat.le_of_ble_eq_true rfl, Nat.le_of_ble_eq_true rfl⟩ ⟨Nat.zero_le _, Nat.zero_le _⟩ hl.1 rfl (Nat.le_of_ble_eq_true rfl) dX6_copy_104 rfl) (fun v14 => ?_)
          exact q_iretE C hr hlo dX6_copy_107
        refine q_tout C 108 dX6_copy_24 (by omega) (by decide) ?_
        refine q_aload_n C dX6_copy_108 rfl (lv_at hl 0 rfl) ?_
        refine g_1_3 C hk1 kf_X6_187 dX6_copy_109 (fun v15 => ?_)
        exact q_iretE C hr hlo dX6_copy_112
      · refine q_bipush C dX6_copy_20 rfl (by decide) (fun v16 => ?_)
        exact q_iretE C hr hlo dX6_copy_22
def f_X6_kept (F : Nat) (k0 : Nat) (a1 : Int) (a2 : Int) (σ : St) : Option (Int × St) :=
  z_ob 6 k0 <| 
  z_cb (f_X6_copyAtLast F k0 a1 σ) (fun σ1 =>
    z_gt (-2) fun v2 =>
    some (v2, σ1)) fun k1 σ2 => z_ob 1 k1 <|
  z_c1 (f_X6_hasCell F k0 a2 σ2) fun v3 =>
  if ¬ v3 = 0 then (
    z_gt (σ2 k1 2) fun v4 =>
    z_gt 2 fun v5 =>
    if v4 = v5 then (
      z_gt (-1) fun v6 =>
      some (v6, σ2))
    else (
      z_gt (σ2 k1 5) fun v7 =>
      z_c1 (f_X6_holds F v7 a2 σ2) fun v8 =>
      if v8 = 0 then (
        z_gt (-1) fun v9 =>
        some (v9, σ2))
      else (
        z_c1 (f_X1_contentOf F k1 a2 σ2) fun v10 =>
        some (v10, σ2))))
  else (
    z_gt (-2) fun v11 =>
    some (v11, σ2))
theorem cb_X6_kept : CB yX6_kept cX6_kept 4 (some .int) 2 := ⟨ki_X6_kept, kq_X6_kept, kn_X6, kc_X6_kept, by decide +kernel, by decide +kernel, by decide +kernel⟩
set_option maxRecDepth 20000 in
set_option maxHeartbeats 4000000 in
theorem m_X6_kept (l : Launch) (G : GG) (F : Nat) (k0 : Nat) (a1 : Int32) (a2 : Int32) (σ : St) : ∀ r, f_X6_kept F k0 a1.toInt a2.toInt σ = some r → MC G l yX6_kept cX6_kept 4 (some .int) { frames := 6, cells := 0, slots := 0, locals := 155 } [.ref (gad G k0), .int a1, .int a2] σ (vI r.1) r.2 := by
  refine MC_of (own := RX6) (fun r : Int × St => vI r.1) (fun r : Int × St => r.2) (by decide +kernel) rfl (Nat.le_of_ble_eq_true rfl) ?_
  intro p e s m args below meth c C hr hlo ls hl
  have hl : lv_has ls 4 [(0, .ref (gad G k0)), (1, .int a1), (2, .int a2)] := hl
  unfold f_X6_kept
  refine q_ob (fun hk0 => ?_)
  refine q_aload_n C dX6_kept_0 rfl (lv_at hl 0 rfl) ?_
  refine q_iload_n C dX6_kept_1 rfl (lv_at hl 1 rfl) ?_
  refine q_cb C (fun r h => cr_V (As := [.int a1]) (rest := []) C (m_X6_copyAtLast l G F k0 a1 σ r h) cb_X6_copyAtLast hk0 (by decide) rfl (cf_6 hk0 _) rfl kl_X6_162 ⟨Nat.le_of_ble_eq_true rfl, Nat.le_of_ble_eq_true rfl⟩ ⟨Nat.zero_le _, Nat.zero_le _⟩ hl.1 rfl (Nat.le_of_ble_eq_true rfl) dX6_kept_2 rfl) (fun σ1 => ?_) (fun k1 σ2 => q_ob (fun hk1 => ?_))
  · refine q_astore_nN C [(3, .null), (0, .ref (gad G k0)), (1, .int a1), (2, .int a2)] dX6_kept_5 rfl hl (by decide) rfl (fun ls hl => ?_)
    refine q_aload_nN C dX6_kept_6 rfl (lv_at hl 0 rfl) ?_
    refine q_ifnullN C 18 dX6_kept_7 (by decide) ?_
    refine q_bipush C dX6_kept_18 rfl (by decide) (fun v2 => ?_)
    exact q_iretE C hr hlo dX6_kept_20
  · refine q_astore_n C [(3, .ref (gad G k1)), (0, .ref (gad G k0)), (1, .int a1), (2, .int a2)] dX6_kept_5 rfl hl (by decide) rfl (fun ls hl => ?_)
    refine q_aload_n C dX6_kept_6 rfl (lv_at hl 0 rfl) ?_
    refine q_ifnull C dX6_kept_7 ?_
    refine q_aload_n C dX6_kept_10 rfl (lv_at hl 1 rfl) ?_
    refine q_iload_n C dX6_kept_11 rfl (lv_at hl 3 rfl) ?_
    refine q_c1i C (fun r h => cr_V (As := [.int a2]) (rest := []) C (m_X6_hasCell l G F k0 a2 σ2 r h) cb_X6_hasCell hk0 (by decide) rfl (cf_6 hk0 _) rfl kl_X6_114 ⟨Nat.le_of_ble_eq_true rfl, Nat.le_of_ble_eq_true rfl⟩ ⟨Nat.zero_le _, Nat.zero_le _⟩ hl.1 rfl (Nat.le_of_ble_eq_true rfl) dX6_kept_12 rfl) (fun v3 => ?_)
    refine q_if_ne C 21 dX6_kept_15 (by decide) ?_ ?_
    · refine q_aload_n C dX6_kept_21 rfl (lv_at hl 0 rfl) ?_
      refine g_1_2 C hk1 kf_X6_175 dX6_kept_22 (fun v4 => ?_)
      refine q_iconst C dX6_kept_25 rfl (by decide) (fun v5 => ?_)
      refine q_icmp_eq C 48 dX6_kept_26 (by decide) ?_ ?_
      · refine q_iconst C dX6_kept_48 rfl (by decide) (fun v6 => ?_)
        exact q_iretE C hr hlo dX6_kept_49
      · refine q_aload_n C dX6_kept_29 rfl (lv_at hl 0 rfl) ?_
        refine g_1_5 C hk1 kf_X6_190 dX6_kept_30 (fun v7 => ?_)
        refine q_iload_n C dX6_kept_33 rfl (lv_at hl 3 rfl) ?_
        refine q_c1i C (fun r h => cr_S (As := [.int v7, .int a2]) (rest := []) C (m_X6_holds l G F v7 a2 σ2 r h) sb_X6_holds kl_X6_143 ⟨Nat.le_of_ble_eq_true rfl, Nat.le_of_ble_eq_true rfl⟩ ⟨Nat.zero_le _, Nat.zero_le _⟩ hl.1 rfl (Nat.le_of_ble_eq_true rfl) dX6_kept_34 rfl) (fun v8 => ?_)
        refine q_if_eq C 48 dX6_kept_37 (by decide) ?_ ?_
        · refine q_iconst C dX6_kept_48 rfl (by decide) (fun v9 => ?_)
          exact q_iretE C hr hlo dX6_kept_49
        · refine q_aload_n C dX6_kept_40 rfl (lv_at hl 0 rfl) ?_
          refine q_iload_n C dX6_kept_41 rfl (lv_at hl 3 rfl) ?_
          refine q_c1i C (fun r h => cr_V (As := [.int a2]) (rest := []) C (m_X1_contentOf l G F k1 a2 σ2 r h) cb_X1_contentOf hk1 (by decide) rfl (cf_1 hk1 _) rfl kl_X6_193 ⟨Nat.le_of_ble_eq_true rfl, Nat.le_of_ble_eq_true rfl⟩ ⟨Nat.zero_le _, Nat.zero_le _⟩ hl.1 rfl (Nat.le_of_ble_eq_true rfl) dX6_kept_42 rfl) (fun v10 => ?_)
          refine q_goto C 49 dX6_kept_45 (by decide) ?_
          exact q_iretE C hr hlo dX6_kept_49
    · refine q_bipush C dX6_kept_18 rfl (by decide) (fun v11 => ?_)
      exact q_iretE C hr hlo dX6_kept_20
def f_X6_saved (F : Nat) (k0 : Nat) (a1 : Int) (a2 : Int) (σ : St) : Option (Int × St) :=
  z_ob 6 k0 <| 
  z_cb (f_X6_copyAtLast F k0 a1 σ) (fun σ1 =>
    z_gt (-2) fun v2 =>
    some (v2, σ1)) fun k1 σ2 => z_ob 1 k1 <|
  z_c1 (f_X6_hasCell F k0 a2 σ2) fun v3 =>
  if ¬ v3 = 0 then (
    z_gt (σ2 k1 6) fun v4 =>
    z_c1 (f_X6_holds F v4 a2 σ2) fun v5 =>
    if v5 = 0 then (
      z_gt 0 fun v6 =>
      some (v6, σ2))
    else (
      z_gt 1 fun v7 =>
      some (v7, σ2)))
  else (
    z_gt (-2) fun v8 =>
    some (v8, σ2))
theorem cb_X6_saved : CB yX6_saved cX6_saved 4 (some .int) 2 := ⟨ki_X6_saved, kq_X6_saved, kn_X6, kc_X6_saved, by decide +kernel, by decide +kernel, by decide +kernel⟩
set_option maxRecDepth 20000 in
set_option maxHeartbeats 4000000 in
theorem m_X6_saved (l : Launch) (G : GG) (F : Nat) (k0 : Nat) (a1 : Int32) (a2 : Int32) (σ : St) : ∀ r, f_X6_saved F k0 a1.toInt a2.toInt σ = some r → MC G l yX6_saved cX6_saved 4 (some .int) { frames := 6, cells := 0, slots := 0, locals := 155 } [.ref (gad G k0), .int a1, .int a2] σ (vI r.1) r.2 := by
  refine MC_of (own := RX6) (fun r : Int × St => vI r.1) (fun r : Int × St => r.2) (by decide +kernel) rfl (Nat.le_of_ble_eq_true rfl) ?_
  intro p e s m args below meth c C hr hlo ls hl
  have hl : lv_has ls 4 [(0, .ref (gad G k0)), (1, .int a1), (2, .int a2)] := hl
  unfold f_X6_saved
  refine q_ob (fun hk0 => ?_)
  refine q_aload_n C dX6_saved_0 rfl (lv_at hl 0 rfl) ?_
  refine q_iload_n C dX6_saved_1 rfl (lv_at hl 1 rfl) ?_
  refine q_cb C (fun r h => cr_V (As := [.int a1]) (rest := []) C (m_X6_copyAtLast l G F k0 a1 σ r h) cb_X6_copyAtLast hk0 (by decide) rfl (cf_6 hk0 _) rfl kl_X6_162 ⟨Nat.le_of_ble_eq_true rfl, Nat.le_of_ble_eq_true rfl⟩ ⟨Nat.zero_le _, Nat.zero_le _⟩ hl.1 rfl (Nat.le_of_ble_eq_true rfl) dX6_saved_2 rfl) (fun σ1 => ?_) (fun k1 σ2 => q_ob (fun hk1 => ?_))
  · refine q_astore_nN C [(3, .null), (0, .ref (gad G k0)), (1, .int a1), (2, .int a2)] dX6_saved_5 rfl hl (by decide) rfl (fun ls hl => ?_)
    refine q_aload_nN C dX6_saved_6 rfl (lv_at hl 0 rfl) ?_
    refine q_ifnullN C 18 dX6_saved_7 (by decide) ?_
    refine q_bipush C dX6_saved_18 rfl (by decide) (fun v2 => ?_)
    exact q_iretE C hr hlo dX6_saved_20
  · refine q_astore_n C [(3, .ref (gad G k1)), (0, .ref (gad G k0)), (1, .int a1), (2, .int a2)] dX6_saved_5 rfl hl (by decide) rfl (fun ls hl => ?_)
    refine q_aload_n C dX6_saved_6 rfl (lv_at hl 0 rfl) ?_
    refine q_ifnull C dX6_saved_7 ?_
    refine q_aload_n C dX6_saved_10 rfl (lv_at hl 1 rfl) ?_
    refine q_iload_n C dX6_saved_11 rfl (lv_at hl 3 rfl) ?_
    refine q_c1i C (fun r h => cr_V (As := [.int a2]) (rest := []) C (m_X6_hasCell l G F k0 a2 σ2 r h) cb_X6_hasCell hk0 (by decide) rfl (cf_6 hk0 _) rfl kl_X6_114 ⟨Nat.le_of_ble_eq_true rfl, Nat.le_of_ble_eq_true rfl⟩ ⟨Nat.zero_le _, Nat.zero_le _⟩ hl.1 rfl (Nat.le_of_ble_eq_true rfl) dX6_saved_12 rfl) (fun v3 => ?_)
    refine q_if_ne C 21 dX6_saved_15 (by decide) ?_ ?_
    · refine q_aload_n C dX6_saved_21 rfl (lv_at hl 0 rfl) ?_
      refine g_1_6 C hk1 kf_X6_184 dX6_saved_22 (fun v4 => ?_)
      refine q_iload_n C dX6_saved_25 rfl (lv_at hl 3 rfl) ?_
      refine q_c1i C (fun r h => cr_S (As := [.int v4, .int a2]) (rest := []) C (m_X6_holds l G F v4 a2 σ2 r h) sb_X6_holds kl_X6_143 ⟨Nat.le_of_ble_eq_true rfl, Nat.le_of_ble_eq_true rfl⟩ ⟨Nat.zero_le _, Nat.zero_le _⟩ hl.1 rfl (Nat.le_of_ble_eq_true rfl) dX6_saved_26 rfl) (fun v5 => ?_)
      refine q_if_eq C 36 dX6_saved_29 (by decide) ?_ ?_
      · refine q_iconst C dX6_saved_36 rfl (by decide) (fun v6 => ?_)
        exact q_iretE C hr hlo dX6_saved_37
      · refine q_iconst C dX6_saved_32 rfl (by decide) (fun v7 => ?_)
        refine q_goto C 37 dX6_saved_33 (by decide) ?_
        exact q_iretE C hr hlo dX6_saved_37
    · refine q_bipush C dX6_saved_18 rfl (by decide) (fun v8 => ?_)
      exact q_iretE C hr hlo dX6_saved_20
def f_X6_order (F : Nat) (k0 : Nat) (a1 : Int) (a2 : Int) (σ : St) : Option (Int × St) :=
  z_ob 6 k0 <| 
  z_cb (f_X6_copyAtLast F k0 a1 σ) (fun σ1 =>
    z_gt (-2) fun v2 =>
    some (v2, σ1)) fun k1 σ2 => z_ob 1 k1 <|
  if 0 ≤ a2 then (
    z_c1 (f_X1_cellInTurn F k1 a2 σ2) fun v3 =>
    some (v3, σ2))
  else (
    z_gt (-2) fun v4 =>
    some (v4, σ2))
theorem cb_X6_order : CB yX6_order cX6_order 4 (some .int) 2 := ⟨ki_X6_order, kq_X6_order, kn_X6, kc_X6_order, by decide +kernel, by decide +kernel, by decide +kernel⟩
set_option maxRecDepth 20000 in
set_option maxHeartbeats 4000000 in
theorem m_X6_order (l : Launch) (G : GG) (F : Nat) (k0 : Nat) (a1 : Int32) (a2 : Int32) (σ : St) : ∀ r, f_X6_order F k0 a1.toInt a2.toInt σ = some r → MC G l yX6_order cX6_order 4 (some .int) { frames := 6, cells := 0, slots := 0, locals := 155 } [.ref (gad G k0), .int a1, .int a2] σ (vI r.1) r.2 := by
  refine MC_of (own := RX6) (fun r : Int × St => vI r.1) (fun r : Int × St => r.2) (by decide +kernel) rfl (Nat.le_of_ble_eq_true rfl) ?_
  intro p e s m args below meth c C hr hlo ls hl
  have hl : lv_has ls 4 [(0, .ref (gad G k0)), (1, .int a1), (2, .int a2)] := hl
  unfold f_X6_order
  refine q_ob (fun hk0 => ?_)
  refine q_aload_n C dX6_order_0 rfl (lv_at hl 0 rfl) ?_
  refine q_iload_n C dX6_order_1 rfl (lv_at hl 1 rfl) ?_
  refine q_cb C (fun r h => cr_V (As := [.int a1]) (rest := []) C (m_X6_copyAtLast l G F k0 a1 σ r h) cb_X6_copyAtLast hk0 (by decide) rfl (cf_6 hk0 _) rfl kl_X6_162 ⟨Nat.le_of_ble_eq_true rfl, Nat.le_of_ble_eq_true rfl⟩ ⟨Nat.zero_le _, Nat.zero_le _⟩ hl.1 rfl (Nat.le_of_ble_eq_true rfl) dX6_order_2 rfl) (fun σ1 => ?_) (fun k1 σ2 => q_ob (fun hk1 => ?_))
  · refine q_astore_nN C [(3, .null), (0, .ref (gad G k0)), (1, .int a1), (2, .int a2)] dX6_order_5 rfl hl (by decide) rfl (fun ls hl => ?_)
    refine q_aload_nN C dX6_order_6 rfl (lv_at hl 0 rfl) ?_
    refine q_ifnullN C 14 dX6_order_7 (by decide) ?_
    refine q_bipush C dX6_order_14 rfl (by decide) (fun v2 => ?_)
    exact q_iretE C hr hlo dX6_order_16
  · refine q_astore_n C [(3, .ref (gad G k1)), (0, .ref (gad G k0)), (1, .int a1), (2, .int a2)] dX6_order_5 rfl hl (by decide) rfl (fun ls hl => ?_)
    refine q_aload_n C dX6_order_6 rfl (lv_at hl 0 rfl) ?_
    refine q_ifnull C dX6_order_7 ?_
    refine q_iload_n C dX6_order_10 rfl (lv_at hl 3 rfl) ?_
    refine q_if_ge C 17 dX6_order_11 (by decide) ?_ ?_
    · refine q_aload_n C dX6_order_17 rfl (lv_at hl 0 rfl) ?_
      refine q_iload_n C dX6_order_18 rfl (lv_at hl 3 rfl) ?_
      refine q_c1i C (fun r h => cr_V (As := [.int a2]) (rest := []) C (m_X1_cellInTurn l G F k1 a2 σ2 r h) cb_X1_cellInTurn hk1 (by decide) rfl (cf_1 hk1 _) rfl kl_X6_196 ⟨Nat.le_of_ble_eq_true rfl, Nat.le_of_ble_eq_true rfl⟩ ⟨Nat.zero_le _, Nat.zero_le _⟩ hl.1 rfl (Nat.le_of_ble_eq_true rfl) dX6_order_19 rfl) (fun v3 => ?_)
      exact q_iretE C hr hlo dX6_order_22
    · refine q_bipush C dX6_order_14 rfl (by decide) (fun v4 => ?_)
      exact q_iretE C hr hlo dX6_order_16
def f_X6_waiting (F : Nat) (k0 : Nat) (a1 : Int) (σ : St) : Option (Int × St) :=
  z_ob 6 k0 <| 
  z_c1 (f_X6_hasTick F k0 a1 σ) fun v1 =>
  if ¬ v1 = 0 then (
    z_c1 (f_X6_playTo F k0 a1 σ) fun σ1 =>
    z_gt (σ1 (k0 + 12) 4) fun v2 =>
    z_ca (f_X3_copyOf F (k0 + 12) v2 σ1) (
      z_gt (-1) fun v4 =>
      some (v4, σ1)) fun k3 => z_ob 1 k3 <|
    z_c1 (f_X1_missing F k3 σ1) fun v5 =>
    z_c1 (f_J6_bitCount_0f7a4 F v5 σ1) fun v6 =>
    some (v6, σ1))
  else (
    z_gt (-2) fun v7 =>
    some (v7, σ))
theorem cb_X6_waiting : CB yX6_waiting cX6_waiting 3 (some .int) 1 := ⟨ki_X6_waiting, kq_X6_waiting, kn_X6, kc_X6_waiting, by decide +kernel, by decide +kernel, by decide +kernel⟩
set_option maxRecDepth 20000 in
set_option maxHeartbeats 4000000 in
theorem m_X6_waiting (l : Launch) (G : GG) (F : Nat) (k0 : Nat) (a1 : Int32) (σ : St) : ∀ r, f_X6_waiting F k0 a1.toInt σ = some r → MC G l yX6_waiting cX6_waiting 3 (some .int) { frames := 5, cells := 0, slots := 0, locals := 134 } [.ref (gad G k0), .int a1] σ (vI r.1) r.2 := by
  refine MC_of (own := RX6) (fun r : Int × St => vI r.1) (fun r : Int × St => r.2) (by decide +kernel) rfl (Nat.le_of_ble_eq_true rfl) ?_
  intro p e s m args below meth c C hr hlo ls hl
  have hl : lv_has ls 3 [(0, .ref (gad G k0)), (1, .int a1)] := hl
  unfold f_X6_waiting
  refine q_ob (fun hk0 => ?_)
  refine q_aload_n C dX6_waiting_0 rfl (lv_at hl 0 rfl) ?_
  refine q_iload_n C dX6_waiting_1 rfl (lv_at hl 1 rfl) ?_
  refine q_c1i C (fun r h => cr_V (As := [.int a1]) (rest := []) C (m_X6_hasTick l G F k0 a1 σ r h) cb_X6_hasTick hk0 (by decide) rfl (cf_6 hk0 _) rfl kl_X6_117 ⟨Nat.le_of_ble_eq_true rfl, Nat.le_of_ble_eq_true rfl⟩ ⟨Nat.zero_le _, Nat.zero_le _⟩ hl.1 rfl (Nat.le_of_ble_eq_true rfl) dX6_waiting_2 rfl) (fun v1 => ?_)
  refine q_if_ne C 11 dX6_waiting_5 (by decide) ?_ ?_
  · refine q_aload_n C dX6_waiting_11 rfl (lv_at hl 0 rfl) ?_
    refine q_iload_n C dX6_waiting_12 rfl (lv_at hl 1 rfl) ?_
    refine q_cv C (fun r h => cr_V (As := [.int a1]) (rest := []) C (m_X6_playTo l G F k0 a1 σ r h) cb_X6_playTo hk0 (by decide) rfl (cf_6 hk0 _) rfl kl_X6_108 ⟨Nat.le_of_ble_eq_true rfl, Nat.le_of_ble_eq_true rfl⟩ ⟨Nat.zero_le _, Nat.zero_le _⟩ hl.1 rfl (Nat.le_of_ble_eq_true rfl) dX6_waiting_13 rfl) (fun σ1 => ?_)
    refine q_aload_n C dX6_waiting_16 rfl (lv_at hl 0 rfl) ?_
    refine g_6_5 C hk0 kf_X6_39 dX6_waiting_17 ?_
    refine q_aload_n C dX6_waiting_20 rfl (lv_at hl 0 rfl) ?_
    refine g_6_5 C hk0 kf_X6_39 dX6_waiting_21 ?_
    refine g_3_4 C (yk_6_5 hk0) kf_X6_159 dX6_waiting_24 (fun v2 => ?_)
    refine q_ca C (fun r h => cr_V (As := [.int v2]) (rest := []) C (m_X3_copyOf l G F (k0 + 12) v2 σ1 r h) cb_X3_copyOf (yk_6_5 hk0) (by decide) rfl (cf_3 (yk_6_5 hk0) _) rfl kl_X6_199 ⟨Nat.le_of_ble_eq_true rfl, Nat.le_of_ble_eq_true rfl⟩ ⟨Nat.zero_le _, Nat.zero_le _⟩ hl.1 rfl (Nat.le_of_ble_eq_true rfl) dX6_waiting_27 rfl) ?_ (fun k3 => q_ob (fun hk3 => ?_))
    · refine q_astore_nN C [(2, .null), (0, .ref (gad G k0)), (1, .int a1)] dX6_waiting_30 rfl hl (by decide) rfl (fun ls hl => ?_)
      refine q_aload_nN C dX6_waiting_31 rfl (lv_at hl 0 rfl) ?_
      refine q_ifnonnullN C dX6_waiting_32 ?_
      refine q_iconst C dX6_waiting_35 rfl (by decide) (fun v4 => ?_)
      refine q_goto C 46 dX6_waiting_36 (by decide) ?_
      exact q_iretE C hr hlo dX6_waiting_46
    · refine q_astore_n C [(2, .ref (gad G k3)), (0, .ref (gad G k0)), (1, .int a1)] dX6_waiting_30 rfl hl (by decide) rfl (fun ls hl => ?_)
      refine q_aload_n C dX6_waiting_31 rfl (lv_at hl 0 rfl) ?_
      refine q_ifnonnull C 39 dX6_waiting_32 (by decide) ?_
      refine q_aload_n C dX6_waiting_39 rfl (lv_at hl 0 rfl) ?_
      refine q_c1i C (fun r h => cr_V (As := []) (rest := []) C (m_X1_missing l G F k3 σ1 r h) cb_X1_missing hk3 (by decide) rfl (cf_1 hk3 _) rfl kl_X6_202 ⟨Nat.le_of_ble_eq_true rfl, Nat.le_of_ble_eq_true rfl⟩ ⟨Nat.zero_le _, Nat.zero_le _⟩ hl.1 rfl (Nat.le_of_ble_eq_true rfl) dX6_waiting_40 rfl) (fun v5 => ?_)
      refine q_c1i C (fun r h => cr_S (As := [.int v5]) (rest := []) C (m_J6_bitCount_0f7a4 l G F v5 σ1 r h) sb_J6_bitCount_0f7a4 kl_X6_132 ⟨Nat.le_of_ble_eq_true rfl, Nat.le_of_ble_eq_true rfl⟩ ⟨Nat.zero_le _, Nat.zero_le _⟩ hl.1 rfl (Nat.le_of_ble_eq_true rfl) dX6_waiting_43 rfl) (fun v6 => ?_)
      exact q_iretE C hr hlo dX6_waiting_46
  · refine q_bipush C dX6_waiting_8 rfl (by decide) (fun v7 => ?_)
    exact q_iretE C hr hlo dX6_waiting_10
def f_X6_saves (F : Nat) (k0 : Nat) (a1 : Int) (σ : St) : Option (Int × St) :=
  z_ob 6 k0 <| 
  z_c1 (f_X6_hasEvent F k0 a1 σ) fun v1 =>
  if ¬ v1 = 0 then (
    z_gt 1 fun v2 =>
    z_ck (a1 + v2) fun v3 =>
    z_c1 (f_X6_playTo F k0 v3 σ) fun σ1 =>
    z_gt (σ1 (k0 + 12) 7) fun v4 =>
    z_c1 (f_J6_bitCount_0f7a4 F v4 σ1) fun v5 =>
    some (v5, σ1))
  else (
    z_gt (-2) fun v6 =>
    some (v6, σ))
theorem cb_X6_saves : CB yX6_saves cX6_saves 2 (some .int) 1 := ⟨ki_X6_saves, kq_X6_saves, kn_X6, kc_X6_saves, by decide +kernel, by decide +kernel, by decide +kernel⟩
set_option maxRecDepth 20000 in
set_option maxHeartbeats 4000000 in
theorem m_X6_saves (l : Launch) (G : GG) (F : Nat) (k0 : Nat) (a1 : Int32) (σ : St) : ∀ r, f_X6_saves F k0 a1.toInt σ = some r → MC G l yX6_saves cX6_saves 2 (some .int) { frames := 5, cells := 0, slots := 0, locals := 134 } [.ref (gad G k0), .int a1] σ (vI r.1) r.2 := by
  refine MC_of (own := RX6) (fun r : Int × St => vI r.1) (fun r : Int × St => r.2) (by decide +kernel) rfl (Nat.le_of_ble_eq_true rfl) ?_
  intro p e s m args below meth c C hr hlo ls hl
  have hl : lv_has ls 2 [(0, .ref (gad G k0)), (1, .int a1)] := hl
  unfold f_X6_saves
  refine q_ob (fun hk0 => ?_)
  refine q_aload_n C dX6_saves_0 rfl (lv_at hl 0 rfl) ?_
  refine q_iload_n C dX6_saves_1 rfl (lv_at hl 1 rfl) ?_
  refine q_c1i C (fun r h => cr_V (As := [.int a1]) (rest := []) C (m_X6_hasEvent l G F k0 a1 σ r h) cb_X6_hasEvent hk0 (by decide) rfl (cf_6 hk0 _) rfl kl_X6_97 ⟨Nat.le_of_ble_eq_true rfl, Nat.le_of_ble_eq_true rfl⟩ ⟨Nat.zero_le _, Nat.zero_le _⟩ hl.1 rfl (Nat.le_of_ble_eq_true rfl) dX6_saves_2 rfl) (fun v1 => ?_)
  refine q_if_ne C 11 dX6_saves_5 (by decide) ?_ ?_
  · refine q_aload_n C dX6_saves_11 rfl (lv_at hl 0 rfl) ?_
    refine q_iload_n C dX6_saves_12 rfl (lv_at hl 1 rfl) ?_
    refine q_iconst C dX6_saves_13 rfl (by decide) (fun v2 => ?_)
    refine q_iadd C dX6_saves_14 (fun v3 => ?_)
    refine q_cv C (fun r h => cr_V (As := [.int v3]) (rest := []) C (m_X6_playTo l G F k0 v3 σ r h) cb_X6_playTo hk0 (by decide) rfl (cf_6 hk0 _) rfl kl_X6_108 ⟨Nat.le_of_ble_eq_true rfl, Nat.le_of_ble_eq_true rfl⟩ ⟨Nat.zero_le _, Nat.zero_le _⟩ hl.1 rfl (Nat.le_of_ble_eq_true rfl) dX6_saves_15 rfl) (fun σ1 => ?_)
    refine q_aload_n C dX6_saves_18 rfl (lv_at hl 0 rfl) ?_
    refine g_6_5 C hk0 kf_X6_39 dX6_saves_19 ?_
    refine g_3_7 C (yk_6_5 hk0) kf_X6_205 dX6_saves_22 (fun v4 => ?_)
    refine q_c1i C (fun r h => cr_S (As := [.int v4]) (rest := []) C (m_J6_bitCount_0f7a4 l G F v4 σ1 r h) sb_J6_bitCount_0f7a4 kl_X6_132 ⟨Nat.le_of_ble_eq_true rfl, Nat.le_of_ble_eq_true rfl⟩ ⟨Nat.zero_le _, Nat.zero_le _⟩ hl.1 rfl (Nat.le_of_ble_eq_true rfl) dX6_saves_25 rfl) (fun v5 => ?_)
    exact q_iretE C hr hlo dX6_saves_28
  · refine q_bipush C dX6_saves_8 rfl (by decide) (fun v6 => ?_)
    exact q_iretE C hr hlo dX6_saves_10
def f_X6_work (F : Nat) (k0 : Nat) (a1 : Int) (σ : St) : Option (Int × St) :=
  z_ob 6 k0 <| 
  z_c1 (f_X6_hasTick F k0 a1 σ) fun v1 =>
  if ¬ v1 = 0 then (
    z_c1 (f_X6_playTo F k0 a1 σ) fun σ1 =>
    z_gt 0 fun v2 =>
    z_c1 (f_X3_sizes F (k0 + 12) v2 σ1) fun v3 =>
    z_gt 1 fun v4 =>
    z_c1 (f_X3_sizes F (k0 + 12) v4 σ1) fun v5 =>
    z_ck (v3 + v5) fun v6 =>
    z_gt 2 fun v7 =>
    z_c1 (f_X3_sizes F (k0 + 12) v7 σ1) fun v8 =>
    z_ck (v6 + v8) fun v9 =>
    some (v9, σ1))
  else (
    z_gt (-2) fun v10 =>
    some (v10, σ))
theorem cb_X6_work : CB yX6_work cX6_work 2 (some .int) 1 := ⟨ki_X6_work, kq_X6_work, kn_X6, kc_X6_work, by decide +kernel, by decide +kernel, by decide +kernel⟩
set_option maxRecDepth 20000 in
set_option maxHeartbeats 4000000 in
theorem m_X6_work (l : Launch) (G : GG) (F : Nat) (k0 : Nat) (a1 : Int32) (σ : St) : ∀ r, f_X6_work F k0 a1.toInt σ = some r → MC G l yX6_work cX6_work 2 (some .int) { frames := 5, cells := 0, slots := 0, locals := 134 } [.ref (gad G k0), .int a1] σ (vI r.1) r.2 := by
  refine MC_of (own := RX6) (fun r : Int × St => vI r.1) (fun r : Int × St => r.2) (by decide +kernel) rfl (Nat.le_of_ble_eq_true rfl) ?_
  intro p e s m args below meth c C hr hlo ls hl
  have hl : lv_has ls 2 [(0, .ref (gad G k0)), (1, .int a1)] := hl
  unfold f_X6_work
  refine q_ob (fun hk0 => ?_)
  refine q_aload_n C dX6_work_0 rfl (lv_at hl 0 rfl) ?_
  refine q_iload_n C dX6_work_1 rfl (lv_at hl 1 rfl) ?_
  refine q_c1i C (fun r h => cr_V (As := [.int a1]) (rest := []) C (m_X6_hasTick l G F k0 a1 σ r h) cb_X6_hasTick hk0 (by decide) rfl (cf_6 hk0 _) rfl kl_X6_117 ⟨Nat.le_of_ble_eq_true rfl, Nat.le_of_ble_eq_true rfl⟩ ⟨Nat.zero_le _, Nat.zero_le _⟩ hl.1 rfl (Nat.le_of_ble_eq_true rfl) dX6_work_2 rfl) (fun v1 => ?_)
  refine q_if_ne C 11 dX6_work_5 (by decide) ?_ ?_
  · refine q_aload_n C dX6_work_11 rfl (lv_at hl 0 rfl) ?_
    refine q_iload_n C dX6_work_12 rfl (lv_at hl 1 rfl) ?_
    refine q_cv C (fun r h => cr_V (As := [.int a1]) (rest := []) C (m_X6_playTo l G F k0 a1 σ r h) cb_X6_playTo hk0 (by decide) rfl (cf_6 hk0 _) rfl kl_X6_108 ⟨Nat.le_of_ble_eq_true rfl, Nat.le_of_ble_eq_true rfl⟩ ⟨Nat.zero_le _, Nat.zero_le _⟩ hl.1 rfl (Nat.le_of_ble_eq_true rfl) dX6_work_13 rfl) (fun σ1 => ?_)
    refine q_aload_n C dX6_work_16 rfl (lv_at hl 0 rfl) ?_
    refine g_6_5 C hk0 kf_X6_39 dX6_work_17 ?_
    refine q_iconst C dX6_work_20 rfl (by decide) (fun v2 => ?_)
    refine q_c1i C (fun r h => cr_V (As := [.int v2]) (rest := []) C (m_X3_sizes l G F (k0 + 12) v2 σ1 r h) cb_X3_sizes (yk_6_5 hk0) (by decide) rfl (cf_3 (yk_6_5 hk0) _) rfl kl_X6_208 ⟨Nat.le_of_ble_eq_true rfl, Nat.le_of_ble_eq_true rfl⟩ ⟨Nat.zero_le _, Nat.zero_le _⟩ hl.1 rfl (Nat.le_of_ble_eq_true rfl) dX6_work_21 rfl) (fun v3 => ?_)
    refine q_aload_n C dX6_work_24 rfl (lv_at hl 0 rfl) ?_
    refine g_6_5 C hk0 kf_X6_39 dX6_work_25 ?_
    refine q_iconst C dX6_work_28 rfl (by decide) (fun v4 => ?_)
    refine q_c1i C (fun r h => cr_V (As := [.int v4]) (rest := [.int v3]) C (m_X3_sizes l G F (k0 + 12) v4 σ1 r h) cb_X3_sizes (yk_6_5 hk0) (by decide) rfl (cf_3 (yk_6_5 hk0) _) rfl kl_X6_208 ⟨Nat.le_of_ble_eq_true rfl, Nat.le_of_ble_eq_true rfl⟩ ⟨Nat.zero_le _, Nat.zero_le _⟩ hl.1 rfl (Nat.le_of_ble_eq_true rfl) dX6_work_29 rfl) (fun v5 => ?_)
    refine q_iadd C dX6_work_32 (fun v6 => ?_)
    refine q_aload_n C dX6_work_33 rfl (lv_at hl 0 rfl) ?_
    refine g_6_5 C hk0 kf_X6_39 dX6_work_34 ?_
    refine q_iconst C dX6_work_37 rfl (by decide) (fun v7 => ?_)
    refine q_c1i C (fun r h => cr_V (As := [.int v7]) (rest := [.int v6]) C (m_X3_sizes l G F (k0 + 12) v7 σ1 r h) cb_X3_sizes (yk_6_5 hk0) (by decide) rfl (cf_3 (yk_6_5 hk0) _) rfl kl_X6_208 ⟨Nat.le_of_ble_eq_true rfl, Nat.le_of_ble_eq_true rfl⟩ ⟨Nat.zero_le _, Nat.zero_le _⟩ hl.1 rfl (Nat.le_of_ble_eq_true rfl) dX6_work_38 rfl) (fun v8 => ?_)
    refine q_iadd C dX6_work_41 (fun v9 => ?_)
    exact q_iretE C hr hlo dX6_work_42
  · refine q_bipush C dX6_work_8 rfl (by decide) (fun v10 => ?_)
    exact q_iretE C hr hlo dX6_work_10
def f_X6_wasted (F : Nat) (k0 : Nat) (a1 : Int) (σ : St) : Option (Int × St) :=
  z_ob 6 k0 <| 
  z_c1 (f_X6_hasTick F k0 a1 σ) fun v1 =>
  if ¬ v1 = 0 then (
    z_c1 (f_X6_playTo F k0 a1 σ) fun σ1 =>
    z_gt 2 fun v2 =>
    z_c1 (f_X3_sizes F (k0 + 12) v2 σ1) fun v3 =>
    some (v3, σ1))
  else (
    z_gt (-2) fun v4 =>
    some (v4, σ))
theorem cb_X6_wasted : CB yX6_wasted cX6_wasted 2 (some .int) 1 := ⟨ki_X6_wasted, kq_X6_wasted, kn_X6, kc_X6_wasted, by decide +kernel, by decide +kernel, by decide +kernel⟩
set_option maxRecDepth 20000 in
set_option maxHeartbeats 4000000 in
theorem m_X6_wasted (l : Launch) (G : GG) (F : Nat) (k0 : Nat) (a1 : Int32) (σ : St) : ∀ r, f_X6_wasted F k0 a1.toInt σ = some r → MC G l yX6_wasted cX6_wasted 2 (some .int) { frames := 5, cells := 0, slots := 0, locals := 134 } [.ref (gad G k0), .int a1] σ (vI r.1) r.2 := by
  refine MC_of (own := RX6) (fun r : Int × St => vI r.1) (fun r : Int × St => r.2) (by decide +kernel) rfl (Nat.le_of_ble_eq_true rfl) ?_
  intro p e s m args below meth c C hr hlo ls hl
  have hl : lv_has ls 2 [(0, .ref (gad G k0)), (1, .int a1)] := hl
  unfold f_X6_wasted
  refine q_ob (fun hk0 => ?_)
  refine q_aload_n C dX6_wasted_0 rfl (lv_at hl 0 rfl) ?_
  refine q_iload_n C dX6_wasted_1 rfl (lv_at hl 1 rfl) ?_
  refine q_c1i C (fun r h => cr_V (As := [.int a1]) (rest := []) C (m_X6_hasTick l G F k0 a1 σ r h) cb_X6_hasTick hk0 (by decide) rfl (cf_6 hk0 _) rfl kl_X6_117 ⟨Nat.le_of_ble_eq_true rfl, Nat.le_of_ble_eq_true rfl⟩ ⟨Nat.zero_le _, Nat.zero_le _⟩ hl.1 rfl (Nat.le_of_ble_eq_true rfl) dX6_wasted_2 rfl) (fun v1 => ?_)
  refine q_if_ne C 11 dX6_wasted_5 (by decide) ?_ ?_
  · refine q_aload_n C dX6_wasted_11 rfl (lv_at hl 0 rfl) ?_
    refine q_iload_n C dX6_wasted_12 rfl (lv_at hl 1 rfl) ?_
    refine q_cv C (fun r h => cr_V (As := [.int a1]) (rest := []) C (m_X6_playTo l G F k0 a1 σ r h) cb_X6_playTo hk0 (by decide) rfl (cf_6 hk0 _) rfl kl_X6_108 ⟨Nat.le_of_ble_eq_true rfl, Nat.le_of_ble_eq_true rfl⟩ ⟨Nat.zero_le _, Nat.zero_le _⟩ hl.1 rfl (Nat.le_of_ble_eq_true rfl) dX6_wasted_13 rfl) (fun σ1 => ?_)
    refine q_aload_n C dX6_wasted_16 rfl (lv_at hl 0 rfl) ?_
    refine g_6_5 C hk0 kf_X6_39 dX6_wasted_17 ?_
    refine q_iconst C dX6_wasted_20 rfl (by decide) (fun v2 => ?_)
    refine q_c1i C (fun r h => cr_V (As := [.int v2]) (rest := []) C (m_X3_sizes l G F (k0 + 12) v2 σ1 r h) cb_X3_sizes (yk_6_5 hk0) (by decide) rfl (cf_3 (yk_6_5 hk0) _) rfl kl_X6_208 ⟨Nat.le_of_ble_eq_true rfl, Nat.le_of_ble_eq_true rfl⟩ ⟨Nat.zero_le _, Nat.zero_le _⟩ hl.1 rfl (Nat.le_of_ble_eq_true rfl) dX6_wasted_21 rfl) (fun v3 => ?_)
    exact q_iretE C hr hlo dX6_wasted_24
  · refine q_bipush C dX6_wasted_8 rfl (by decide) (fun v4 => ?_)
    exact q_iretE C hr hlo dX6_wasted_10
def f_X6_chain (F : Nat) (k0 : Nat) (a1 : Int) (σ : St) : Option (Int × St) :=
  z_ob 6 k0 <| 
  z_c1 (f_X6_hasTick F k0 a1 σ) fun v1 =>
  if ¬ v1 = 0 then (
    z_c1 (f_X6_playTo F k0 a1 σ) fun σ1 =>
    z_c1 (f_X3_links F (k0 + 12) σ1) fun v2 =>
    some (v2, σ1))
  else (
    z_gt (-2) fun v3 =>
    some (v3, σ))
theorem cb_X6_chain : CB yX6_chain cX6_chain 2 (some .int) 1 := ⟨ki_X6_chain, kq_X6_chain, kn_X6, kc_X6_chain, by decide +kernel, by decide +kernel, by decide +kernel⟩
set_option maxRecDepth 20000 in
set_option maxHeartbeats 4000000 in
theorem m_X6_chain (l : Launch) (G : GG) (F : Nat) (k0 : Nat) (a1 : Int32) (σ : St) : ∀ r, f_X6_chain F k0 a1.toInt σ = some r → MC G l yX6_chain cX6_chain 2 (some .int) { frames := 5, cells := 0, slots := 0, locals := 134 } [.ref (gad G k0), .int a1] σ (vI r.1) r.2 := by
  refine MC_of (own := RX6) (fun r : Int × St => vI r.1) (fun r : Int × St => r.2) (by decide +kernel) rfl (Nat.le_of_ble_eq_true rfl) ?_
  intro p e s m args below meth c C hr hlo ls hl
  have hl : lv_has ls 2 [(0, .ref (gad G k0)), (1, .int a1)] := hl
  unfold f_X6_chain
  refine q_ob (fun hk0 => ?_)
  refine q_aload_n C dX6_chain_0 rfl (lv_at hl 0 rfl) ?_
  refine q_iload_n C dX6_chain_1 rfl (lv_at hl 1 rfl) ?_
  refine q_c1i C (fun r h => cr_V (As := [.int a1]) (rest := []) C (m_X6_hasTick l G F k0 a1 σ r h) cb_X6_hasTick hk0 (by decide) rfl (cf_6 hk0 _) rfl kl_X6_117 ⟨Nat.le_of_ble_eq_true rfl, Nat.le_of_ble_eq_true rfl⟩ ⟨Nat.zero_le _, Nat.zero_le _⟩ hl.1 rfl (Nat.le_of_ble_eq_true rfl) dX6_chain_2 rfl) (fun v1 => ?_)
  refine q_if_ne C 11 dX6_chain_5 (by decide) ?_ ?_
  · refine q_aload_n C dX6_chain_11 rfl (lv_at hl 0 rfl) ?_
    refine q_iload_n C dX6_chain_12 rfl (lv_at hl 1 rfl) ?_
    refine q_cv C (fun r h => cr_V (As := [.int a1]) (rest := []) C (m_X6_playTo l G F k0 a1 σ r h) cb_X6_playTo hk0 (by decide) rfl (cf_6 hk0 _) rfl kl_X6_108 ⟨Nat.le_of_ble_eq_true rfl, Nat.le_of_ble_eq_true rfl⟩ ⟨Nat.zero_le _, Nat.zero_le _⟩ hl.1 rfl (Nat.le_of_ble_eq_true rfl) dX6_chain_13 rfl) (fun σ1 => ?_)
    refine q_aload_n C dX6_chain_16 rfl (lv_at hl 0 rfl) ?_
    refine g_6_5 C hk0 kf_X6_39 dX6_chain_17 ?_
    refine q_c1i C (fun r h => cr_V (As := []) (rest := []) C (m_X3_links l G F (k0 + 12) σ1 r h) cb_X3_links (yk_6_5 hk0) (by decide) rfl (cf_3 (yk_6_5 hk0) _) rfl kl_X6_211 ⟨Nat.le_of_ble_eq_true rfl, Nat.le_of_ble_eq_true rfl⟩ ⟨Nat.zero_le _, Nat.zero_le _⟩ hl.1 rfl (Nat.le_of_ble_eq_true rfl) dX6_chain_20 rfl) (fun v2 => ?_)
    exact q_iretE C hr hlo dX6_chain_23
  · refine q_bipush C dX6_chain_8 rfl (by decide) (fun v3 => ?_)
    exact q_iretE C hr hlo dX6_chain_10
def f_X6_linked (F : Nat) (k0 : Nat) (a1 : Int) (a2 : Int) (σ : St) : Option (Int × St) :=
  z_ob 6 k0 <| 
  z_c1 (f_X6_hasTick F k0 a1 σ) fun v1 =>
  if v1 = 0 then (
    z_gt (-2) fun v2 =>
    some (v2, σ))
  else (
    if 0 ≤ a2 then (
      z_c1 (f_X6_playTo F k0 a1 σ) fun σ1 =>
      z_c1 (f_X3_link F (k0 + 12) a2 σ1) fun v3 =>
      some (v3, σ1))
    else (
      z_gt (-2) fun v4 =>
      some (v4, σ)))
theorem cb_X6_linked : CB yX6_linked cX6_linked 3 (some .int) 2 := ⟨ki_X6_linked, kq_X6_linked, kn_X6, kc_X6_linked, by decide +kernel, by decide +kernel, by decide +kernel⟩
set_option maxRecDepth 20000 in
set_option maxHeartbeats 4000000 in
theorem m_X6_linked (l : Launch) (G : GG) (F : Nat) (k0 : Nat) (a1 : Int32) (a2 : Int32) (σ : St) : ∀ r, f_X6_linked F k0 a1.toInt a2.toInt σ = some r → MC G l yX6_linked cX6_linked 3 (some .int) { frames := 5, cells := 0, slots := 0, locals := 134 } [.ref (gad G k0), .int a1, .int a2] σ (vI r.1) r.2 := by
  refine MC_of (own := RX6) (fun r : Int × St => vI r.1) (fun r : Int × St => r.2) (by decide +kernel) rfl (Nat.le_of_ble_eq_true rfl) ?_
  intro p e s m args below meth c C hr hlo ls hl
  have hl : lv_has ls 3 [(0, .ref (gad G k0)), (1, .int a1), (2, .int a2)] := hl
  unfold f_X6_linked
  refine q_ob (fun hk0 => ?_)
  refine q_aload_n C dX6_linked_0 rfl (lv_at hl 0 rfl) ?_
  refine q_iload_n C dX6_linked_1 rfl (lv_at hl 1 rfl) ?_
  refine q_c1i C (fun r h => cr_V (As := [.int a1]) (rest := []) C (m_X6_hasTick l G F k0 a1 σ r h) cb_X6_hasTick hk0 (by decide) rfl (cf_6 hk0 _) rfl kl_X6_117 ⟨Nat.le_of_ble_eq_true rfl, Nat.le_of_ble_eq_true rfl⟩ ⟨Nat.zero_le _, Nat.zero_le _⟩ hl.1 rfl (Nat.le_of_ble_eq_true rfl) dX6_linked_2 rfl) (fun v1 => ?_)
  refine q_if_eq C 12 dX6_linked_5 (by decide) ?_ ?_
  · refine q_bipush C dX6_linked_12 rfl (by decide) (fun v2 => ?_)
    exact q_iretE C hr hlo dX6_linked_14
  · refine q_iload_n C dX6_linked_8 rfl (lv_at hl 2 rfl) ?_
    refine q_if_ge C 15 dX6_linked_9 (by decide) ?_ ?_
    · refine q_aload_n C dX6_linked_15 rfl (lv_at hl 0 rfl) ?_
      refine q_iload_n C dX6_linked_16 rfl (lv_at hl 1 rfl) ?_
      refine q_cv C (fun r h => cr_V (As := [.int a1]) (rest := []) C (m_X6_playTo l G F k0 a1 σ r h) cb_X6_playTo hk0 (by decide) rfl (cf_6 hk0 _) rfl kl_X6_108 ⟨Nat.le_of_ble_eq_true rfl, Nat.le_of_ble_eq_true rfl⟩ ⟨Nat.zero_le _, Nat.zero_le _⟩ hl.1 rfl (Nat.le_of_ble_eq_true rfl) dX6_linked_17 rfl) (fun σ1 => ?_)
      refine q_aload_n C dX6_linked_20 rfl (lv_at hl 0 rfl) ?_
      refine g_6_5 C hk0 kf_X6_39 dX6_linked_21 ?_
      refine q_iload_n C dX6_linked_24 rfl (lv_at hl 2 rfl) ?_
      refine q_c1i C (fun r h => cr_V (As := [.int a2]) (rest := []) C (m_X3_link l G F (k0 + 12) a2 σ1 r h) cb_X3_link (yk_6_5 hk0) (by decide) rfl (cf_3 (yk_6_5 hk0) _) rfl kl_X6_214 ⟨Nat.le_of_ble_eq_true rfl, Nat.le_of_ble_eq_true rfl⟩ ⟨Nat.zero_le _, Nat.zero_le _⟩ hl.1 rfl (Nat.le_of_ble_eq_true rfl) dX6_linked_25 rfl) (fun v3 => ?_)
      exact q_iretE C hr hlo dX6_linked_28
    · refine q_bipush C dX6_linked_12 rfl (by decide) (fun v4 => ?_)
      exact q_iretE C hr hlo dX6_linked_14
def f_X6_replays_L26 (F : Nat) (k0 : Nat) (a1 : Int)   : Nat → Int → Int → St → Option (Int × St)
  | 0, _, _, _ => none
  | n + 1, x4, x5, σ =>
    if a1 ≤ x5 then (
      some (x4, σ))
    else (
      z_c1 (f_X4_isCommand F (k0 + 4) x5 σ) fun v6 =>
      if v6 = 0 then (
        z_ck (x5 + 1) fun v7 =>
        f_X6_replays_L26 F k0 a1 n x4 v7 σ)
      else (
        z_ck (x4 + 1) fun v8 =>
        z_ck (x5 + 1) fun v9 =>
        f_X6_replays_L26 F k0 a1 n v8 v9 σ))

def f_X6_replays (F : Nat) (k0 : Nat) (a1 : Int) (σ : St) : Option (Int × St) :=
  z_ob 6 k0 <| 
  z_c1 (f_X6_hasTick F k0 a1 σ) fun v1 =>
  if ¬ v1 = 0 then (
    z_c1 (f_X6_playTo F k0 a1 σ) fun σ1 =>
    z_gt 0 fun v2 =>
    z_c1 (f_X3_chainMark F (k0 + 12) σ1) fun v3 =>
    f_X6_replays_L26 F k0 a1 F v2 v3 σ1)
  else (
    z_gt (-2) fun v10 =>
    some (v10, σ))
theorem cb_X6_replays : CB yX6_replays cX6_replays 4 (some .int) 1 := ⟨ki_X6_replays, kq_X6_replays, kn_X6, kc_X6_replays, by decide +kernel, by decide +kernel, by decide +kernel⟩
set_option maxRecDepth 20000 in
set_option maxHeartbeats 4000000 in
theorem m_X6_replays (l : Launch) (G : GG) (F : Nat) (k0 : Nat) (a1 : Int32) (σ : St) : ∀ r, f_X6_replays F k0 a1.toInt σ = some r → MC G l yX6_replays cX6_replays 4 (some .int) { frames := 5, cells := 0, slots := 0, locals := 134 } [.ref (gad G k0), .int a1] σ (vI r.1) r.2 := by
  refine MC_of (own := RX6) (fun r : Int × St => vI r.1) (fun r : Int × St => r.2) (by decide +kernel) rfl (Nat.le_of_ble_eq_true rfl) ?_
  intro p e s m args below meth c C hr hlo ls hl
  have hl : lv_has ls 4 [(0, .ref (gad G k0)), (1, .int a1)] := hl
  unfold f_X6_replays
  refine q_ob (fun hk0 => ?_)
  have B26 : ∀ (n : Nat) (x4 : Int32) (x5 : Int32) (σ : St) (ls : Array Slot), lv_has ls 4 [(0, .ref (gad G k0)), (1, .int a1), (2, .int x4), (3, .int x5)] → Sim G (AG G) 0 0 p l e { frames := 5, cells := 0, slots := 0, locals := 134 } s m args below meth c (fun r : Int × St => MQ below (QC G (vI r.1) (r.2)) args s 0 0 (AG G)) σ (f_X6_replays_L26 F k0 a1.toInt   n x4.toInt x5.toInt σ) (F0 m 26 ls []) := by
    intro n
    induction n with
    | zero =>
      intro x4 x5 σ ls hl
      exact sim_none
    | succ n ih =>
      intro x4 x5 σ ls hl
      rw [f_X6_replays_L26]
      refine q_iload_n C dX6_replays_26 rfl (lv_at hl 3 rfl) ?_
      refine q_iload_n C dX6_replays_27 rfl (lv_at hl 1 rfl) ?_
      refine q_icmp_ge C 51 dX6_replays_28 (by decide) ?_ ?_
      · refine q_iload_n C dX6_replays_51 rfl (lv_at hl 2 rfl) ?_
        exact q_iretE C hr hlo dX6_replays_52
      · refine q_aload_n C dX6_replays_31 rfl (lv_at hl 0 rfl) ?_
        refine g_6_1 C hk0 kf_X6_19 dX6_replays_32 ?_
        refine q_iload_n C dX6_replays_35 rfl (lv_at hl 3 rfl) ?_
        refine q_c1i C (fun r h => cr_V (As := [.int x5]) (rest := []) C (m_X4_isCommand l G F (k0 + 4) x5 σ r h) cb_X4_isCommand (yk_6_1 hk0) (by decide) rfl (cf_4 (yk_6_1 hk0) _) rfl kl_X6_220 ⟨Nat.le_of_ble_eq_true rfl, Nat.le_of_ble_eq_true rfl⟩ ⟨Nat.zero_le _, Nat.zero_le _⟩ hl.1 rfl (Nat.le_of_ble_eq_true rfl) dX6_replays_36 rfl) (fun v6 => ?_)
        refine q_if_eq C 45 dX6_replays_39 (by decide) ?_ ?_
        · refine q_iinc (k := 3) C (fun v7 => [(3, .int v7), (0, .ref (gad G k0)), (1, .int a1), (2, .int x4)]) dX6_replays_45 hl rfl (by decide) (by decide) (fun _ => rfl) (fun v7 ls hl => ?_)
          refine q_goto C 26 dX6_replays_48 (by decide) ?_
          exact ih x4 v7 σ ls (lv_sub hl [1, 2, 3, 0] rfl)
        · refine q_iinc (k := 2) C (fun v8 => [(2, .int v8), (0, .ref (gad G k0)), (1, .int a1), (3, .int x5)]) dX6_replays_42 hl rfl (by decide) (by decide) (fun _ => rfl) (fun v8 ls hl => ?_)
          refine q_iinc (k := 3) C (fun v9 => [(3, .int v9), (2, .int v8), (0, .ref (gad G k0)), (1, .int a1)]) dX6_replays_45 hl rfl (by decide) (by decide) (fun _ => rfl) (fun v9 ls hl => ?_)
          refine q_goto C 26 dX6_replays_48 (by decide) ?_
          exact ih v8 v9 σ ls (lv_sub hl [2, 3, 1, 0] rfl)
  refine q_aload_n C dX6_replays_0 rfl (lv_at hl 0 rfl) ?_
  refine q_iload_n C dX6_replays_1 rfl (lv_at hl 1 rfl) ?_
  refine q_c1i C (fun r h => cr_V (As := [.int a1]) (rest := []) C (m_X6_hasTick l G F k0 a1 σ r h) cb_X6_hasTick hk0 (by decide) rfl (cf_6 hk0 _) rfl kl_X6_117 ⟨Nat.le_of_ble_eq_true rfl, Nat.le_of_ble_eq_true rfl⟩ ⟨Nat.zero_le _, Nat.zero_le _⟩ hl.1 rfl (Nat.le_of_ble_eq_true rfl) dX6_replays_2 rfl) (fun v1 => ?_)
  refine q_if_ne C 11 dX6_replays_5 (by decide) ?_ ?_
  · refine q_aload_n C dX6_replays_11 rfl (lv_at hl 0 rfl) ?_
    refine q_iload_n C dX6_replays_12 rfl (lv_at hl 1 rfl) ?_
    refine q_cv C (fun r h => cr_V (As := [.int a1]) (rest := []) C (m_X6_playTo l G F k0 a1 σ r h) cb_X6_playTo hk0 (by decide) rfl (cf_6 hk0 _) rfl kl_X6_108 ⟨Nat.le_of_ble_eq_true rfl, Nat.le_of_ble_eq_true rfl⟩ ⟨Nat.zero_le _, Nat.zero_le _⟩ hl.1 rfl (Nat.le_of_ble_eq_true rfl) dX6_replays_13 rfl) (fun σ1 => ?_)
    refine q_iconst C dX6_replays_16 rfl (by decide) (fun v2 => ?_)
    refine q_istore_n C [(2, .int v2), (0, .ref (gad G k0)), (1, .int a1)] dX6_replays_17 rfl hl (by decide) rfl (fun ls hl => ?_)
    refine q_aload_n C dX6_replays_18 rfl (lv_at hl 1 rfl) ?_
    refine g_6_5 C hk0 kf_X6_39 dX6_replays_19 ?_
    refine q_c1i C (fun r h => cr_V (As := []) (rest := []) C (m_X3_chainMark l G F (k0 + 12) σ1 r h) cb_X3_chainMark (yk_6_5 hk0) (by decide) rfl (cf_3 (yk_6_5 hk0) _) rfl kl_X6_217 ⟨Nat.le_of_ble_eq_true rfl, Nat.le_of_ble_eq_true rfl⟩ ⟨Nat.zero_le _, Nat.zero_le _⟩ hl.1 rfl (Nat.le_of_ble_eq_true rfl) dX6_replays_22 rfl) (fun v3 => ?_)
    refine q_istore_n C [(3, .int v3), (2, .int v2), (0, .ref (gad G k0)), (1, .int a1)] dX6_replays_25 rfl hl (by decide) rfl (fun ls hl => ?_)
    exact B26 F v2 v3 σ1 ls (lv_sub hl [2, 3, 1, 0] rfl)
  · refine q_bipush C dX6_replays_8 rfl (by decide) (fun v10 => ?_)
    exact q_iretE C hr hlo dX6_replays_10
def f_X6_raised (F : Nat) (k0 : Nat) (a1 : Int) (a2 : Int) (σ : St) : Option (Int × St) :=
  z_ob 6 k0 <| 
  z_c1 (f_X6_hasCell F k0 a1 σ) fun v1 =>
  if v1 = 0 then (
    z_gt (-2) fun v2 =>
    some (v2, σ))
  else (
    z_c1 (f_X6_hasTick F k0 a2 σ) fun v3 =>
    if ¬ v3 = 0 then (
      z_c1 (f_X6_playTo F k0 a2 σ) fun σ1 =>
      z_c1 (f_X3_raisedCell F (k0 + 12) a1 σ1) fun v4 =>
      some (v4, σ1))
    else (
      z_gt (-2) fun v5 =>
      some (v5, σ)))
theorem cb_X6_raised : CB yX6_raised cX6_raised 3 (some .int) 2 := ⟨ki_X6_raised, kq_X6_raised, kn_X6, kc_X6_raised, by decide +kernel, by decide +kernel, by decide +kernel⟩
set_option maxRecDepth 20000 in
set_option maxHeartbeats 4000000 in
theorem m_X6_raised (l : Launch) (G : GG) (F : Nat) (k0 : Nat) (a1 : Int32) (a2 : Int32) (σ : St) : ∀ r, f_X6_raised F k0 a1.toInt a2.toInt σ = some r → MC G l yX6_raised cX6_raised 3 (some .int) { frames := 5, cells := 0, slots := 0, locals := 134 } [.ref (gad G k0), .int a1, .int a2] σ (vI r.1) r.2 := by
  refine MC_of (own := RX6) (fun r : Int × St => vI r.1) (fun r : Int × St => r.2) (by decide +kernel) rfl (Nat.le_of_ble_eq_true rfl) ?_
  intro p e s m args below meth c C hr hlo ls hl
  have hl : lv_has ls 3 [(0, .ref (gad G k0)), (1, .int a1), (2, .int a2)] := hl
  unfold f_X6_raised
  refine q_ob (fun hk0 => ?_)
  refine q_aload_n C dX6_raised_0 rfl (lv_at hl 0 rfl) ?_
  refine q_iload_n C dX6_raised_1 rfl (lv_at hl 1 rfl) ?_
  refine q_c1i C (fun r h => cr_V (As := [.int a1]) (rest := []) C (m_X6_hasCell l G F k0 a1 σ r h) cb_X6_hasCell hk0 (by decide) rfl (cf_6 hk0 _) rfl kl_X6_114 ⟨Nat.le_of_ble_eq_true rfl, Nat.le_of_ble_eq_true rfl⟩ ⟨Nat.zero_le _, Nat.zero_le _⟩ hl.1 rfl (Nat.le_of_ble_eq_true rfl) dX6_raised_2 rfl) (fun v1 => ?_)
  refine q_if_eq C 16 dX6_raised_5 (by decide) ?_ ?_
  · refine q_bipush C dX6_raised_16 rfl (by decide) (fun v2 => ?_)
    exact q_iretE C hr hlo dX6_raised_18
  · refine q_aload_n C dX6_raised_8 rfl (lv_at hl 0 rfl) ?_
    refine q_iload_n C dX6_raised_9 rfl (lv_at hl 2 rfl) ?_
    refine q_c1i C (fun r h => cr_V (As := [.int a2]) (rest := []) C (m_X6_hasTick l G F k0 a2 σ r h) cb_X6_hasTick hk0 (by decide) rfl (cf_6 hk0 _) rfl kl_X6_117 ⟨Nat.le_of_ble_eq_true rfl, Nat.le_of_ble_eq_true rfl⟩ ⟨Nat.zero_le _, Nat.zero_le _⟩ hl.1 rfl (Nat.le_of_ble_eq_true rfl) dX6_raised_10 rfl) (fun v3 => ?_)
    refine q_if_ne C 19 dX6_raised_13 (by decide) ?_ ?_
    · refine q_aload_n C dX6_raised_19 rfl (lv_at hl 0 rfl) ?_
      refine q_iload_n C dX6_raised_20 rfl (lv_at hl 2 rfl) ?_
      refine q_cv C (fun r h => cr_V (As := [.int a2]) (rest := []) C (m_X6_playTo l G F k0 a2 σ r h) cb_X6_playTo hk0 (by decide) rfl (cf_6 hk0 _) rfl kl_X6_108 ⟨Nat.le_of_ble_eq_true rfl, Nat.le_of_ble_eq_true rfl⟩ ⟨Nat.zero_le _, Nat.zero_le _⟩ hl.1 rfl (Nat.le_of_ble_eq_true rfl) dX6_raised_21 rfl) (fun σ1 => ?_)
      refine q_aload_n C dX6_raised_24 rfl (lv_at hl 0 rfl) ?_
      refine g_6_5 C hk0 kf_X6_39 dX6_raised_25 ?_
      refine q_iload_n C dX6_raised_28 rfl (lv_at hl 1 rfl) ?_
      refine q_c1i C (fun r h => cr_V (As := [.int a1]) (rest := []) C (m_X3_raisedCell l G F (k0 + 12) a1 σ1 r h) cb_X3_raisedCell (yk_6_5 hk0) (by decide) rfl (cf_3 (yk_6_5 hk0) _) rfl kl_X6_223 ⟨Nat.le_of_ble_eq_true rfl, Nat.le_of_ble_eq_true rfl⟩ ⟨Nat.zero_le _, Nat.zero_le _⟩ hl.1 rfl (Nat.le_of_ble_eq_true rfl) dX6_raised_29 rfl) (fun v4 => ?_)
      exact q_iretE C hr hlo dX6_raised_32
    · refine q_bipush C dX6_raised_16 rfl (by decide) (fun v5 => ?_)
      exact q_iretE C hr hlo dX6_raised_18
def f_X6_restored_L82 (F : Nat) (k0 : Nat) (a1 : Int) (a2 : Int)   : Nat → Int → St → Option (Int × St)
  | 0, _, _ => none
  | n + 1, x9, σ =>
    if a2 ≤ x9 then (
      z_c1 (f_X0_cellAt F (k0 + 208) a1 σ) fun v10 =>
      some (v10, σ))
    else (
      z_c2 (f_X0_apply F (k0 + 208) (k0 + 4) x9 σ) fun v11 σ3 =>
      z_ck (x9 + 1) fun v12 =>
      f_X6_restored_L82 F k0 a1 a2 n v12 σ3)

def f_X6_restored_L40 (F : Nat) (k0 : Nat) (a1 : Int) (a2 : Int)   : Nat → Int → St → Option (Int × St)
  | 0, _, _ => none
  | n + 1, x6, σ =>
    z_gt (σ (k0 + 4) 0) fun v7 =>
    if v7 ≤ x6 then (
      z_c1 (f_X3_chainMark F (k0 + 12) σ) fun v8 =>
      f_X6_restored_L82 F k0 a1 a2 F v8 σ)
    else (
      z_c1 (f_X3_raisedCell F (k0 + 12) x6 σ) fun v13 =>
      z_c2 (f_X0_put F (k0 + 208) x6 v13 σ) fun v14 σ4 =>
      z_ck (x6 + 1) fun v15 =>
      f_X6_restored_L40 F k0 a1 a2 n v15 σ4)

def f_X6_restored (F : Nat) (k0 : Nat) (a1 : Int) (a2 : Int) (σ : St) : Option (Int × St) :=
  z_ob 6 k0 <| 
  z_c1 (f_X6_hasCell F k0 a1 σ) fun v1 =>
  if v1 = 0 then (
    z_gt (-2) fun v2 =>
    some (v2, σ))
  else (
    z_c1 (f_X6_hasTick F k0 a2 σ) fun v3 =>
    if ¬ v3 = 0 then (
      z_c1 (f_X6_playTo F k0 a2 σ) fun σ1 =>
      z_gt (σ1 (k0 + 4) 0) fun v4 =>
      z_c1 (f_X0_clear F (k0 + 208) v4 σ1) fun σ2 =>
      z_gt 0 fun v5 =>
      f_X6_restored_L40 F k0 a1 a2 F v5 σ2)
    else (
      z_gt (-2) fun v16 =>
      some (v16, σ)))
theorem cb_X6_restored : CB yX6_restored cX6_restored 4 (some .int) 2 := ⟨ki_X6_restored, kq_X6_restored, kn_X6, kc_X6_restored, by decide +kernel, by decide +kernel, by decide +kernel⟩
set_option maxRecDepth 20000 in
set_option maxHeartbeats 4000000 in
theorem m_X6_restored (l : Launch) (G : GG) (F : Nat) (k0 : Nat) (a1 : Int32) (a2 : Int32) (σ : St) : ∀ r, f_X6_restored F k0 a1.toInt a2.toInt σ = some r → MC G l yX6_restored cX6_restored 4 (some .int) { frames := 5, cells := 0, slots := 0, locals := 134 } [.ref (gad G k0), .int a1, .int a2] σ (vI r.1) r.2 := by
  refine MC_of (own := RX6) (fun r : Int × St => vI r.1) (fun r : Int × St => r.2) (by decide +kernel) rfl (Nat.le_of_ble_eq_true rfl) ?_
  intro p e s m args below meth c C hr hlo ls hl
  have hl : lv_has ls 4 [(0, .ref (gad G k0)), (1, .int a1), (2, .int a2)] := hl
  unfold f_X6_restored
  refine q_ob (fun hk0 => ?_)
  have B82 : ∀ (n : Nat) (x9 : Int32) (σ : St) (ls : Array Slot), lv_has ls 4 [(0, .ref (gad G k0)), (1, .int a1), (2, .int a2), (3, .int x9)] → Sim G (AG G) 0 0 p l e { frames := 5, cells := 0, slots := 0, locals := 134 } s m args below meth c (fun r : Int × St => MQ below (QC G (vI r.1) (r.2)) args s 0 0 (AG G)) σ (f_X6_restored_L82 F k0 a1.toInt a2.toInt   n x9.toInt σ) (F0 m 82 ls []) := by
    intro n
    induction n with
    | zero =>
      intro x9 σ ls hl
      exact sim_none
    | succ n ih =>
      intro x9 σ ls hl
      rw [f_X6_restored_L82]
      refine q_iload_n C dX6_restored_82 rfl (lv_at hl 3 rfl) ?_
      refine q_iload_n C dX6_restored_83 rfl (lv_at hl 2 rfl) ?_
      refine q_icmp_ge C 106 dX6_restored_84 (by decide) ?_ ?_
      · refine q_aload_n C dX6_restored_106 rfl (lv_at hl 0 rfl) ?_
        refine g_6_7 C hk0 kf_X6_49 dX6_restored_107 ?_
        refine q_iload_n C dX6_restored_110 rfl (lv_at hl 1 rfl) ?_
        refine q_c1i C (fun r h => cr_V (As := [.int a1]) (rest := []) C (m_X0_cellAt l G F (k0 + 208) a1 σ r h) cb_X0_cellAt (yk_6_7 hk0) (by decide) rfl (cf_0 (yk_6_7 hk0) _) rfl kl_X6_123 ⟨Nat.le_of_ble_eq_true rfl, Nat.le_of_ble_eq_true rfl⟩ ⟨Nat.zero_le _, Nat.zero_le _⟩ hl.1 rfl (Nat.le_of_ble_eq_true rfl) dX6_restored_111 rfl) (fun v10 => ?_)
        exact q_iretE C hr hlo dX6_restored_114
      · refine q_aload_n C dX6_restored_87 rfl (lv_at hl 0 rfl) ?_
        refine g_6_7 C hk0 kf_X6_49 dX6_restored_88 ?_
        refine q_aload_n C dX6_restored_91 rfl (lv_at hl 0 rfl) ?_
        refine g_6_1 C hk0 kf_X6_19 dX6_restored_92 ?_
        refine q_iload_n C dX6_restored_95 rfl (lv_at hl 3 rfl) ?_
        refine q_c2i C (fun r h => cr_V (As := [.ref (gad G (k0 + 4)), .int x9]) (rest := []) C (m_X0_apply l G F (k0 + 208) (k0 + 4) x9 σ r h) cb_X0_apply (yk_6_7 hk0) (by decide) rfl (cf_0 (yk_6_7 hk0) _) rfl kl_X6_235 ⟨Nat.le_of_ble_eq_true rfl, Nat.le_of_ble_eq_true rfl⟩ ⟨Nat.zero_le _, Nat.zero_le _⟩ hl.1 rfl (Nat.le_of_ble_eq_true rfl) dX6_restored_96 rfl) (fun v11 σ3 => ?_)
        refine q_pop C dX6_restored_99 rfl ?_
        refine q_iinc (k := 3) C (fun v12 => [(3, .int v12), (0, .ref (gad G k0)), (1, .int a1), (2, .int a2)]) dX6_restored_100 hl rfl (by decide) (by decide) (fun _ => rfl) (fun v12 ls hl => ?_)
        refine q_goto C 82 dX6_restored_103 (by decide) ?_
        exact ih v12 σ3 ls (lv_sub hl [1, 2, 3, 0] rfl)
  have B40 : ∀ (n : Nat) (x6 : Int32) (σ : St) (ls : Array Slot), lv_has ls 4 [(0, .ref (gad G k0)), (1, .int a1), (2, .int a2), (3, .int x6)] → Sim G (AG G) 0 0 p l e { frames := 5, cells := 0, slots := 0, locals := 134 } s m args below meth c (fun r : Int × St => MQ below (QC G (vI r.1) (r.2)) args s 0 0 (AG G)) σ (f_X6_restored_L40 F k0 a1.toInt a2.toInt   n x6.toInt σ) (F0 m 40 ls []) := by
    intro n
    induction n with
    | zero =>
      intro x6 σ ls hl
      exact sim_none
    | succ n ih =>
      intro x6 σ ls hl
      rw [f_X6_restored_L40]
      refine q_iload_n C dX6_restored_40 rfl (lv_at hl 3 rfl) ?_
      refine q_aload_n C dX6_restored_41 rfl (lv_at hl 0 rfl) ?_
      refine g_6_1 C hk0 kf_X6_19 dX6_restored_42 ?_
      refine g_4_0 C (yk_6_1 hk0) kf_X6_226 dX6_restored_45 (fun v7 => ?_)
      refine q_icmp_ge C 74 dX6_restored_48 (by decide) ?_ ?_
      · refine q_aload_n C dX6_restored_74 rfl (lv_at hl 0 rfl) ?_
        refine g_6_5 C hk0 kf_X6_39 dX6_restored_75 ?_
        refine q_c1i C (fun r h => cr_V (As := []) (rest := []) C (m_X3_chainMark l G F (k0 + 12) σ r h) cb_X3_chainMark (yk_6_5 hk0) (by decide) rfl (cf_3 (yk_6_5 hk0) _) rfl kl_X6_217 ⟨Nat.le_of_ble_eq_true rfl, Nat.le_of_ble_eq_true rfl⟩ ⟨Nat.zero_le _, Nat.zero_le _⟩ hl.1 rfl (Nat.le_of_ble_eq_true rfl) dX6_restored_78 rfl) (fun v8 => ?_)
        refine q_istore_n C [(3, .int v8), (0, .ref (gad G k0)), (1, .int a1), (2, .int a2)] dX6_restored_81 rfl hl (by decide) rfl (fun ls hl => ?_)
        exact B82 F v8 σ ls (lv_sub hl [1, 2, 3, 0] rfl)
      · refine q_aload_n C dX6_restored_51 rfl (lv_at hl 0 rfl) ?_
        refine g_6_7 C hk0 kf_X6_49 dX6_restored_52 ?_
        refine q_iload_n C dX6_restored_55 rfl (lv_at hl 3 rfl) ?_
        refine q_aload_n C dX6_restored_56 rfl (lv_at hl 0 rfl) ?_
        refine g_6_5 C hk0 kf_X6_39 dX6_restored_57 ?_
        refine q_iload_n C dX6_restored_60 rfl (lv_at hl 3 rfl) ?_
        refine q_c1i C (fun r h => cr_V (As := [.int x6]) (rest := [.int x6, .ref (gad G (k0 + 208))]) C (m_X3_raisedCell l G F (k0 + 12) x6 σ r h) cb_X3_raisedCell (yk_6_5 hk0) (by decide) rfl (cf_3 (yk_6_5 hk0) _) rfl kl_X6_223 ⟨Nat.le_of_ble_eq_true rfl, Nat.le_of_ble_eq_true rfl⟩ ⟨Nat.zero_le _, Nat.zero_le _⟩ hl.1 rfl (Nat.le_of_ble_eq_true rfl) dX6_restored_61 rfl) (fun v13 => ?_)
        refine q_c2i C (fun r h => cr_V (As := [.int x6, .int v13]) (rest := []) C (m_X0_put l G F (k0 + 208) x6 v13 σ r h) cb_X0_put (yk_6_7 hk0) (by decide) rfl (cf_0 (yk_6_7 hk0) _) rfl kl_X6_232 ⟨Nat.le_of_ble_eq_true rfl, Nat.le_of_ble_eq_true rfl⟩ ⟨Nat.zero_le _, Nat.zero_le _⟩ hl.1 rfl (Nat.le_of_ble_eq_true rfl) dX6_restored_64 rfl) (fun v14 σ4 => ?_)
        refine q_pop C dX6_restored_67 rfl ?_
        refine q_iinc (k := 3) C (fun v15 => [(3, .int v15), (0, .ref (gad G k0)), (1, .int a1), (2, .int a2)]) dX6_restored_68 hl rfl (by decide) (by decide) (fun _ => rfl) (fun v15 ls hl => ?_)
        refine q_goto C 40 dX6_restored_71 (by decide) ?_
        exact ih v15 σ4 ls (lv_sub hl [1, 2, 3, 0] rfl)
  refine q_aload_n C dX6_restored_0 rfl (lv_at hl 0 rfl) ?_
  refine q_iload_n C dX6_restored_1 rfl (lv_at hl 1 rfl) ?_
  refine q_c1i C (fun r h => cr_V (As := [.int a1]) (rest := []) C (m_X6_hasCell l G F k0 a1 σ r h) cb_X6_hasCell hk0 (by decide) rfl (cf_6 hk0 _) rfl kl_X6_114 ⟨Nat.le_of_ble_eq_true rfl, Nat.le_of_ble_eq_true rfl⟩ ⟨Nat.zero_le _, Nat.zero_le _⟩ hl.1 rfl (Nat.le_of_ble_eq_true rfl) dX6_restored_2 rfl) (fun v1 => ?_)
  refine q_if_eq C 16 dX6_restored_5 (by decide) ?_ ?_
  · refine q_bipush C dX6_restored_16 rfl (by decide) (fun v2 => ?_)
    exact q_iretE C hr hlo dX6_restored_18
  · refine q_aload_n C dX6_restored_8 rfl (lv_at hl 0 rfl) ?_
    refine q_iload_n C dX6_restored_9 rfl (lv_at hl 2 rfl) ?_
    refine q_c1i C (fun r h => cr_V (As := [.int a2]) (rest := []) C (m_X6_hasTick l G F k0 a2 σ r h) cb_X6_hasTick hk0 (by decide) rfl (cf_6 hk0 _) rfl kl_X6_117 ⟨Nat.le_of_ble_eq_true rfl, Nat.le_of_ble_eq_true rfl⟩ ⟨Nat.zero_le _, Nat.zero_le _⟩ hl.1 rfl (Nat.le_of_ble_eq_true rfl) dX6_restored_10 rfl) (fun v3 => ?_)
    refine q_if_ne C 19 dX6_restored_13 (by decide) ?_ ?_
    · refine q_aload_n C dX6_restored_19 rfl (lv_at hl 0 rfl) ?_
      refine q_iload_n C dX6_restored_20 rfl (lv_at hl 2 rfl) ?_
      refine q_cv C (fun r h => cr_V (As := [.int a2]) (rest := []) C (m_X6_playTo l G F k0 a2 σ r h) cb_X6_playTo hk0 (by decide) rfl (cf_6 hk0 _) rfl kl_X6_108 ⟨Nat.le_of_ble_eq_true rfl, Nat.le_of_ble_eq_true rfl⟩ ⟨Nat.zero_le _, Nat.zero_le _⟩ hl.1 rfl (Nat.le_of_ble_eq_true rfl) dX6_restored_21 rfl) (fun σ1 => ?_)
      refine q_aload_n C dX6_restored_24 rfl (lv_at hl 0 rfl) ?_
      refine g_6_7 C hk0 kf_X6_49 dX6_restored_25 ?_
      refine q_aload_n C dX6_restored_28 rfl (lv_at hl 0 rfl) ?_
      refine g_6_1 C hk0 kf_X6_19 dX6_restored_29 ?_
      refine g_4_0 C (yk_6_1 hk0) kf_X6_226 dX6_restored_32 (fun v4 => ?_)
      refine q_cv C (fun r h => cr_V (As := [.int v4]) (rest := []) C (m_X0_clear l G F (k0 + 208) v4 σ1 r h) cb_X0_clear (yk_6_7 hk0) (by decide) rfl (cf_0 (yk_6_7 hk0) _) rfl kl_X6_229 ⟨Nat.le_of_ble_eq_true rfl, Nat.le_of_ble_eq_true rfl⟩ ⟨Nat.zero_le _, Nat.zero_le _⟩ hl.1 rfl (Nat.le_of_ble_eq_true rfl) dX6_restored_35 rfl) (fun σ2 => ?_)
      refine q_iconst C dX6_restored_38 rfl (by decide) (fun v5 => ?_)
      refine q_istore_n C [(3, .int v5), (0, .ref (gad G k0)), (1, .int a1), (2, .int a2)] dX6_restored_39 rfl hl (by decide) rfl (fun ls hl => ?_)
      exact B40 F v5 σ2 ls (lv_sub hl [1, 2, 3, 0] rfl)
    · refine q_bipush C dX6_restored_16 rfl (by decide) (fun v16 => ?_)
      exact q_iretE C hr hlo dX6_restored_18
def f_X6_doubled (F : Nat) (k0 : Nat) (a1 : Int) (σ : St) : Option (Int × St) :=
  z_ob 6 k0 <| 
  z_c1 (f_X6_hasTick F k0 a1 σ) fun v1 =>
  if ¬ v1 = 0 then (
    z_c1 (f_X6_playTo F k0 a1 σ) fun σ1 =>
    z_c1 (f_X3_keptAgain F (k0 + 12) σ1) fun v2 =>
    some (v2, σ1))
  else (
    z_gt (-2) fun v3 =>
    some (v3, σ))
theorem cb_X6_doubled : CB yX6_doubled cX6_doubled 2 (some .int) 1 := ⟨ki_X6_doubled, kq_X6_doubled, kn_X6, kc_X6_doubled, by decide +kernel, by decide +kernel, by decide +kernel⟩
set_option maxRecDepth 20000 in
set_option maxHeartbeats 4000000 in
theorem m_X6_doubled (l : Launch) (G : GG) (F : Nat) (k0 : Nat) (a1 : Int32) (σ : St) : ∀ r, f_X6_doubled F k0 a1.toInt σ = some r → MC G l yX6_doubled cX6_doubled 2 (some .int) { frames := 5, cells := 0, slots := 0, locals := 134 } [.ref (gad G k0), .int a1] σ (vI r.1) r.2 := by
  refine MC_of (own := RX6) (fun r : Int × St => vI r.1) (fun r : Int × St => r.2) (by decide +kernel) rfl (Nat.le_of_ble_eq_true rfl) ?_
  intro p e s m args below meth c C hr hlo ls hl
  have hl : lv_has ls 2 [(0, .ref (gad G k0)), (1, .int a1)] := hl
  unfold f_X6_doubled
  refine q_ob (fun hk0 => ?_)
  refine q_aload_n C dX6_doubled_0 rfl (lv_at hl 0 rfl) ?_
  refine q_iload_n C dX6_doubled_1 rfl (lv_at hl 1 rfl) ?_
  refine q_c1i C (fun r h => cr_V (As := [.int a1]) (rest := []) C (m_X6_hasTick l G F k0 a1 σ r h) cb_X6_hasTick hk0 (by decide) rfl (cf_6 hk0 _) rfl kl_X6_117 ⟨Nat.le_of_ble_eq_true rfl, Nat.le_of_ble_eq_true rfl⟩ ⟨Nat.zero_le _, Nat.zero_le _⟩ hl.1 rfl (Nat.le_of_ble_eq_true rfl) dX6_doubled_2 rfl) (fun v1 => ?_)
  refine q_if_ne C 11 dX6_doubled_5 (by decide) ?_ ?_
  · refine q_aload_n C dX6_doubled_11 rfl (lv_at hl 0 rfl) ?_
    refine q_iload_n C dX6_doubled_12 rfl (lv_at hl 1 rfl) ?_
    refine q_cv C (fun r h => cr_V (As := [.int a1]) (rest := []) C (m_X6_playTo l G F k0 a1 σ r h) cb_X6_playTo hk0 (by decide) rfl (cf_6 hk0 _) rfl kl_X6_108 ⟨Nat.le_of_ble_eq_true rfl, Nat.le_of_ble_eq_true rfl⟩ ⟨Nat.zero_le _, Nat.zero_le _⟩ hl.1 rfl (Nat.le_of_ble_eq_true rfl) dX6_doubled_13 rfl) (fun σ1 => ?_)
    refine q_aload_n C dX6_doubled_16 rfl (lv_at hl 0 rfl) ?_
    refine g_6_5 C hk0 kf_X6_39 dX6_doubled_17 ?_
    refine q_c1i C (fun r h => cr_V (As := []) (rest := []) C (m_X3_keptAgain l G F (k0 + 12) σ1 r h) cb_X3_keptAgain (yk_6_5 hk0) (by decide) rfl (cf_3 (yk_6_5 hk0) _) rfl kl_X6_239 ⟨Nat.le_of_ble_eq_true rfl, Nat.le_of_ble_eq_true rfl⟩ ⟨Nat.zero_le _, Nat.zero_le _⟩ hl.1 rfl (Nat.le_of_ble_eq_true rfl) dX6_doubled_20 rfl) (fun v2 => ?_)
    exact q_iretE C hr hlo dX6_doubled_23
  · refine q_bipush C dX6_doubled_8 rfl (by decide) (fun v3 => ?_)
    exact q_iretE C hr hlo dX6_doubled_10
def f_X6_source (F : Nat) (k0 : Nat) (a1 : Int) (a2 : Int) (σ : St) : Option (Int × St) :=
  z_ob 6 k0 <| 
  z_c1 (f_X6_hasCell F k0 a1 σ) fun v1 =>
  if v1 = 0 then (
    z_gt (-2) fun v2 =>
    some (v2, σ))
  else (
    z_c1 (f_X6_hasTick F k0 a2 σ) fun v3 =>
    if ¬ v3 = 0 then (
      z_c1 (f_X6_playTo F k0 a2 σ) fun σ1 =>
      z_c1 (f_X3_sourceOf F (k0 + 12) a1 σ1) fun v4 =>
      some (v4, σ1))
    else (
      z_gt (-2) fun v5 =>
      some (v5, σ)))
theorem cb_X6_source : CB yX6_source cX6_source 3 (some .int) 2 := ⟨ki_X6_source, kq_X6_source, kn_X6, kc_X6_source, by decide +kernel, by decide +kernel, by decide +kernel⟩
set_option maxRecDepth 20000 in
set_option maxHeartbeats 4000000 in
theorem m_X6_source (l : Launch) (G : GG) (F : Nat) (k0 : Nat) (a1 : Int32) (a2 : Int32) (σ : St) : ∀ r, f_X6_source F k0 a1.toInt a2.toInt σ = some r → MC G l yX6_source cX6_source 3 (some .int) { frames := 5, cells := 0, slots := 0, locals := 134 } [.ref (gad G k0), .int a1, .int a2] σ (vI r.1) r.2 := by
  refine MC_of (own := RX6) (fun r : Int × St => vI r.1) (fun r : Int × St => r.2) (by decide +kernel) rfl (Nat.le_of_ble_eq_true rfl) ?_
  intro p e s m args below meth c C hr hlo ls hl
  have hl : lv_has ls 3 [(0, .ref (gad G k0)), (1, .int a1), (2, .int a2)] := hl
  unfold f_X6_source
  refine q_ob (fun hk0 => ?_)
  refine q_aload_n C dX6_source_0 rfl (lv_at hl 0 rfl) ?_
  refine q_iload_n C dX6_source_1 rfl (lv_at hl 1 rfl) ?_
  refine q_c1i C (fun r h => cr_V (As := [.int a1]) (rest := []) C (m_X6_hasCell l G F k0 a1 σ r h) cb_X6_hasCell hk0 (by decide) rfl (cf_6 hk0 _) rfl kl_X6_114 ⟨Nat.le_of_ble_eq_true rfl, Nat.le_of_ble_eq_true rfl⟩ ⟨Nat.zero_le _, Nat.zero_le _⟩ hl.1 rfl (Nat.le_of_ble_eq_true rfl) dX6_source_2 rfl) (fun v1 => ?_)
  refine q_if_eq C 16 dX6_source_5 (by decide) ?_ ?_
  · refine q_bipush C dX6_source_16 rfl (by decide) (fun v2 => ?_)
    exact q_iretE C hr hlo dX6_source_18
  · refine q_aload_n C dX6_source_8 rfl (lv_at hl 0 rfl) ?_
    refine q_iload_n C dX6_source_9 rfl (lv_at hl 2 rfl) ?_
    refine q_c1i C (fun r h => cr_V (As := [.int a2]) (rest := []) C (m_X6_hasTick l G F k0 a2 σ r h) cb_X6_hasTick hk0 (by decide) rfl (cf_6 hk0 _) rfl kl_X6_117 ⟨Nat.le_of_ble_eq_true rfl, Nat.le_of_ble_eq_true rfl⟩ ⟨Nat.zero_le _, Nat.zero_le _⟩ hl.1 rfl (Nat.le_of_ble_eq_true rfl) dX6_source_10 rfl) (fun v3 => ?_)
    refine q_if_ne C 19 dX6_source_13 (by decide) ?_ ?_
    · refine q_aload_n C dX6_source_19 rfl (lv_at hl 0 rfl) ?_
      refine q_iload_n C dX6_source_20 rfl (lv_at hl 2 rfl) ?_
      refine q_cv C (fun r h => cr_V (As := [.int a2]) (rest := []) C (m_X6_playTo l G F k0 a2 σ r h) cb_X6_playTo hk0 (by decide) rfl (cf_6 hk0 _) rfl kl_X6_108 ⟨Nat.le_of_ble_eq_true rfl, Nat.le_of_ble_eq_true rfl⟩ ⟨Nat.zero_le _, Nat.zero_le _⟩ hl.1 rfl (Nat.le_of_ble_eq_true rfl) dX6_source_21 rfl) (fun σ1 => ?_)
      refine q_aload_n C dX6_source_24 rfl (lv_at hl 0 rfl) ?_
      refine g_6_5 C hk0 kf_X6_39 dX6_source_25 ?_
      refine q_iload_n C dX6_source_28 rfl (lv_at hl 1 rfl) ?_
      refine q_c1i C (fun r h => cr_V (As := [.int a1]) (rest := []) C (m_X3_sourceOf l G F (k0 + 12) a1 σ1 r h) cb_X3_sourceOf (yk_6_5 hk0) (by decide) rfl (cf_3 (yk_6_5 hk0) _) rfl kl_X6_242 ⟨Nat.le_of_ble_eq_true rfl, Nat.le_of_ble_eq_true rfl⟩ ⟨Nat.zero_le _, Nat.zero_le _⟩ hl.1 rfl (Nat.le_of_ble_eq_true rfl) dX6_source_29 rfl) (fun v4 => ?_)
      exact q_iretE C hr hlo dX6_source_32
    · refine q_bipush C dX6_source_16 rfl (by decide) (fun v5 => ?_)
      exact q_iretE C hr hlo dX6_source_18
def f_X6_age (F : Nat) (k0 : Nat) (a1 : Int) (σ : St) : Option (Int × St) :=
  z_ob 6 k0 <| 
  z_c1 (f_X6_hasTick F k0 a1 σ) fun v1 =>
  if ¬ v1 = 0 then (
    z_c1 (f_X6_playTo F k0 a1 σ) fun σ1 =>
    z_c1 (f_X3_chainMark F (k0 + 12) σ1) fun v2 =>
    z_ck (a1 - v2) fun v3 =>
    some (v3, σ1))
  else (
    z_gt (-2) fun v4 =>
    some (v4, σ))
theorem cb_X6_age : CB yX6_age cX6_age 2 (some .int) 1 := ⟨ki_X6_age, kq_X6_age, kn_X6, kc_X6_age, by decide +kernel, by decide +kernel, by decide +kernel⟩
set_option maxRecDepth 20000 in
set_option maxHeartbeats 4000000 in
theorem m_X6_age (l : Launch) (G : GG) (F : Nat) (k0 : Nat) (a1 : Int32) (σ : St) : ∀ r, f_X6_age F k0 a1.toInt σ = some r → MC G l yX6_age cX6_age 2 (some .int) { frames := 5, cells := 0, slots := 0, locals := 134 } [.ref (gad G k0), .int a1] σ (vI r.1) r.2 := by
  refine MC_of (own := RX6) (fun r : Int × St => vI r.1) (fun r : Int × St => r.2) (by decide +kernel) rfl (Nat.le_of_ble_eq_true rfl) ?_
  intro p e s m args below meth c C hr hlo ls hl
  have hl : lv_has ls 2 [(0, .ref (gad G k0)), (1, .int a1)] := hl
  unfold f_X6_age
  refine q_ob (fun hk0 => ?_)
  refine q_aload_n C dX6_age_0 rfl (lv_at hl 0 rfl) ?_
  refine q_iload_n C dX6_age_1 rfl (lv_at hl 1 rfl) ?_
  refine q_c1i C (fun r h => cr_V (As := [.int a1]) (rest := []) C (m_X6_hasTick l G F k0 a1 σ r h) cb_X6_hasTick hk0 (by decide) rfl (cf_6 hk0 _) rfl kl_X6_117 ⟨Nat.le_of_ble_eq_true rfl, Nat.le_of_ble_eq_true rfl⟩ ⟨Nat.zero_le _, Nat.zero_le _⟩ hl.1 rfl (Nat.le_of_ble_eq_true rfl) dX6_age_2 rfl) (fun v1 => ?_)
  refine q_if_ne C 11 dX6_age_5 (by decide) ?_ ?_
  · refine q_aload_n C dX6_age_11 rfl (lv_at hl 0 rfl) ?_
    refine q_iload_n C dX6_age_12 rfl (lv_at hl 1 rfl) ?_
    refine q_cv C (fun r h => cr_V (As := [.int a1]) (rest := []) C (m_X6_playTo l G F k0 a1 σ r h) cb_X6_playTo hk0 (by decide) rfl (cf_6 hk0 _) rfl kl_X6_108 ⟨Nat.le_of_ble_eq_true rfl, Nat.le_of_ble_eq_true rfl⟩ ⟨Nat.zero_le _, Nat.zero_le _⟩ hl.1 rfl (Nat.le_of_ble_eq_true rfl) dX6_age_13 rfl) (fun σ1 => ?_)
    refine q_iload_n C dX6_age_16 rfl (lv_at hl 1 rfl) ?_
    refine q_aload_n C dX6_age_17 rfl (lv_at hl 0 rfl) ?_
    refine g_6_5 C hk0 kf_X6_39 dX6_age_18 ?_
    refine q_c1i C (fun r h => cr_V (As := []) (rest := [.int a1]) C (m_X3_chainMark l G F (k0 + 12) σ1 r h) cb_X3_chainMark (yk_6_5 hk0) (by decide) rfl (cf_3 (yk_6_5 hk0) _) rfl kl_X6_217 ⟨Nat.le_of_ble_eq_true rfl, Nat.le_of_ble_eq_true rfl⟩ ⟨Nat.zero_le _, Nat.zero_le _⟩ hl.1 rfl (Nat.le_of_ble_eq_true rfl) dX6_age_21 rfl) (fun v2 => ?_)
    refine q_isub C dX6_age_24 (fun v3 => ?_)
    exact q_iretE C hr hlo dX6_age_25
  · refine q_bipush C dX6_age_8 rfl (by decide) (fun v4 => ?_)
    exact q_iretE C hr hlo dX6_age_10
def f_X6_worst_L23 (F : Nat) (k0 : Nat)   : Nat → Int → Int → Int → St → Option (Int × St)
  | 0, _, _, _, _ => none
  | n + 1, x5, x6, x7, σ =>
    z_c1 (f_X4_size F (k0 + 4) σ) fun v8 =>
    if v8 < x7 then (
      some (x5, σ))
    else (
      z_c1 (f_X6_playTo F k0 x7 σ) fun σ2 =>
      z_c1 (f_X3_chainMark F (k0 + 12) σ2) fun v9 =>
      z_ck (x7 - v9) fun v10 =>
      if v10 ≤ x6 then (
        z_ck (x7 + 1) fun v11 =>
        f_X6_worst_L23 F k0 n x5 x6 v11 σ2)
      else (
        z_ck (x7 + 1) fun v12 =>
        f_X6_worst_L23 F k0 n x7 v10 v12 σ2))

def f_X6_worst (F : Nat) (k0 : Nat) (σ : St) : Option (Int × St) :=
  z_ob 6 k0 <| 
  z_c1 (f_X4_exists F (k0 + 4) σ) fun v1 =>
  if ¬ v1 = 0 then (
    z_gt 0 fun v2 =>
    z_gt 0 fun v3 =>
    z_c1 (f_X6_playAnew F k0 σ) fun σ1 =>
    z_gt 1 fun v4 =>
    f_X6_worst_L23 F k0 F v2 v3 v4 σ1)
  else (
    z_gt (-2) fun v13 =>
    some (v13, σ))
theorem cb_X6_worst : CB yX6_worst cX6_worst 5 (some .int) 0 := ⟨ki_X6_worst, kq_X6_worst, kn_X6, kc_X6_worst, by decide +kernel, by decide +kernel, by decide +kernel⟩
set_option maxRecDepth 20000 in
set_option maxHeartbeats 4000000 in
theorem m_X6_worst (l : Launch) (G : GG) (F : Nat) (k0 : Nat) (σ : St) : ∀ r, f_X6_worst F k0 σ = some r → MC G l yX6_worst cX6_worst 5 (some .int) { frames := 5, cells := 0, slots := 0, locals := 134 } [.ref (gad G k0)] σ (vI r.1) r.2 := by
  refine MC_of (own := RX6) (fun r : Int × St => vI r.1) (fun r : Int × St => r.2) (by decide +kernel) rfl (Nat.le_of_ble_eq_true rfl) ?_
  intro p e s m args below meth c C hr hlo ls hl
  have hl : lv_has ls 5 [(0, .ref (gad G k0))] := hl
  unfold f_X6_worst
  refine q_ob (fun hk0 => ?_)
  have B23 : ∀ (n : Nat) (x5 : Int32) (x6 : Int32) (x7 : Int32) (σ : St) (ls : Array Slot), lv_has ls 5 [(0, .ref (gad G k0)), (1, .int x5), (2, .int x6), (3, .int x7)] → Sim G (AG G) 0 0 p l e { frames := 5, cells := 0, slots := 0, locals := 134 } s m args below meth c (fun r : Int × St => MQ below (QC G (vI r.1) (r.2)) args s 0 0 (AG G)) σ (f_X6_worst_L23 F k0   n x5.toInt x6.toInt x7.toInt σ) (F0 m 23 ls []) := by
    intro n
    induction n with
    | zero =>
      intro x5 x6 x7 σ ls hl
      exact sim_none
    | succ n ih =>
      intro x5 x6 x7 σ ls hl
      rw [f_X6_worst_L23]
      refine q_iload_n C dX6_worst_23 rfl (lv_at hl 3 rfl) ?_
      refine q_aload_n C dX6_worst_24 rfl (lv_at hl 0 rfl) ?_
      refine g_6_1 C hk0 kf_X6_19 dX6_worst_25 ?_
      refine q_c1i C (fun r h => cr_V (As := []) (rest := [.int x7]) C (m_X4_size l G F (k0 + 4) σ r h) cb_X4_size (yk_6_1 hk0) (by decide) rfl (cf_4 (yk_6_1 hk0) _) rfl kl_X6_249 ⟨Nat.le_of_ble_eq_true rfl, Nat.le_of_ble_eq_true rfl⟩ ⟨Nat.zero_le _, Nat.zero_le _⟩ hl.1 rfl (Nat.le_of_ble_eq_true rfl) dX6_worst_28 rfl) (fun v8 => ?_)
      refine q_icmp_gt C 67 dX6_worst_31 (by decide) ?_ ?_
      · refine q_iload_n C dX6_worst_67 rfl (lv_at hl 1 rfl) ?_
        exact q_iretE C hr hlo dX6_worst_68
      · refine q_aload_n C dX6_worst_34 rfl (lv_at hl 0 rfl) ?_
        refine q_iload_n C dX6_worst_35 rfl (lv_at hl 3 rfl) ?_
        refine q_cv C (fun r h => cr_V (As := [.int x7]) (rest := []) C (m_X6_playTo l G F k0 x7 σ r h) cb_X6_playTo hk0 (by decide) rfl (cf_6 hk0 _) rfl kl_X6_108 ⟨Nat.le_of_ble_eq_true rfl, Nat.le_of_ble_eq_true rfl⟩ ⟨Nat.zero_le _, Nat.zero_le _⟩ hl.1 rfl (Nat.le_of_ble_eq_true rfl) dX6_worst_36 rfl) (fun σ2 => ?_)
        refine q_iload_n C dX6_worst_39 rfl (lv_at hl 3 rfl) ?_
        refine q_aload_n C dX6_worst_40 rfl (lv_at hl 0 rfl) ?_
        refine g_6_5 C hk0 kf_X6_39 dX6_worst_41 ?_
        refine q_c1i C (fun r h => cr_V (As := []) (rest := [.int x7]) C (m_X3_chainMark l G F (k0 + 12) σ2 r h) cb_X3_chainMark (yk_6_5 hk0) (by decide) rfl (cf_3 (yk_6_5 hk0) _) rfl kl_X6_217 ⟨Nat.le_of_ble_eq_true rfl, Nat.le_of_ble_eq_true rfl⟩ ⟨Nat.zero_le _, Nat.zero_le _⟩ hl.1 rfl (Nat.le_of_ble_eq_true rfl) dX6_worst_44 rfl) (fun v9 => ?_)
        refine q_isub C dX6_worst_47 (fun v10 => ?_)
        refine q_istore C [(4, .int v10), (0, .ref (gad G k0)), (1, .int x5), (2, .int x6), (3, .int x7)] dX6_worst_48 hl (by decide) rfl (fun ls hl => ?_)
        refine q_iload C dX6_worst_50 (lv_at hl 0 rfl) ?_
        refine q_iload_n C dX6_worst_52 rfl (lv_at hl 3 rfl) ?_
        refine q_icmp_le C 61 dX6_worst_53 (by decide) ?_ ?_
        · refine q_iinc (k := 4) C (fun v11 => [(3, .int v11), (4, .int v10), (0, .ref (gad G k0)), (1, .int x5), (2, .int x6)]) dX6_worst_61 hl rfl (by decide) (by decide) (fun _ => rfl) (fun v11 ls hl => ?_)
          refine q_goto C 23 dX6_worst_64 (by decide) ?_
          exact ih x5 x6 v11 σ2 ls (lv_sub hl [2, 3, 4, 0] rfl)
        · refine q_iload C dX6_worst_56 (lv_at hl 0 rfl) ?_
          refine q_istore_n C [(2, .int v10), (4, .int v10), (0, .ref (gad G k0)), (1, .int x5), (3, .int x7)] dX6_worst_58 rfl hl (by decide) rfl (fun ls hl => ?_)
          refine q_iload_n C dX6_worst_59 rfl (lv_at hl 4 rfl) ?_
          refine q_istore_n C [(1, .int x7), (2, .int v10), (4, .int v10), (0, .ref (gad G k0)), (3, .int x7)] dX6_worst_60 rfl hl (by decide) rfl (fun ls hl => ?_)
          refine q_iinc (k := 4) C (fun v12 => [(3, .int v12), (1, .int x7), (2, .int v10), (4, .int v10), (0, .ref (gad G k0))]) dX6_worst_61 hl rfl (by decide) (by decide) (fun _ => rfl) (fun v12 ls hl => ?_)
          refine q_goto C 23 dX6_worst_64 (by decide) ?_
          exact ih x7 v10 v12 σ2 ls (lv_sub hl [4, 1, 2, 0] rfl)
  refine q_aload_n C dX6_worst_0 rfl (lv_at hl 0 rfl) ?_
  refine g_6_1 C hk0 kf_X6_19 dX6_worst_1 ?_
  refine q_c1i C (fun r h => cr_V (As := []) (rest := []) C (m_X4_exists l G F (k0 + 4) σ r h) cb_X4_exists (yk_6_1 hk0) (by decide) rfl (cf_4 (yk_6_1 hk0) _) rfl kl_X6_245 ⟨Nat.le_of_ble_eq_true rfl, Nat.le_of_ble_eq_true rfl⟩ ⟨Nat.zero_le _, Nat.zero_le _⟩ hl.1 rfl (Nat.le_of_ble_eq_true rfl) dX6_worst_4 rfl) (fun v1 => ?_)
  refine q_if_ne C 13 dX6_worst_7 (by decide) ?_ ?_
  · refine q_iconst C dX6_worst_13 rfl (by decide) (fun v2 => ?_)
    refine q_istore_n C [(1, .int v2), (0, .ref (gad G k0))] dX6_worst_14 rfl hl (by decide) rfl (fun ls hl => ?_)
    refine q_iconst C dX6_worst_15 rfl (by decide) (fun v3 => ?_)
    refine q_istore_n C [(2, .int v3), (1, .int v2), (0, .ref (gad G k0))] dX6_worst_16 rfl hl (by decide) rfl (fun ls hl => ?_)
    refine q_aload_n C dX6_worst_17 rfl (lv_at hl 2 rfl) ?_
    refine q_cv C (fun r h => cr_V (As := []) (rest := []) C (m_X6_playAnew l G F k0 σ r h) cb_X6_playAnew hk0 (by decide) rfl (cf_6 hk0 _) rfl kl_X6_84 ⟨Nat.le_of_ble_eq_true rfl, Nat.le_of_ble_eq_true rfl⟩ ⟨Nat.zero_le _, Nat.zero_le _⟩ hl.1 rfl (Nat.le_of_ble_eq_true rfl) dX6_worst_18 rfl) (fun σ1 => ?_)
    refine q_iconst C dX6_worst_21 rfl (by decide) (fun v4 => ?_)
    refine q_istore_n C [(3, .int v4), (2, .int v3), (1, .int v2), (0, .ref (gad G k0))] dX6_worst_22 rfl hl (by decide) rfl (fun ls hl => ?_)
    exact B23 F v2 v3 v4 σ1 ls (lv_sub hl [3, 2, 1, 0] rfl)
  · refine q_bipush C dX6_worst_10 rfl (by decide) (fun v13 => ?_)
    exact q_iretE C hr hlo dX6_worst_12
def f_X6_differ (F : Nat) (k0 : Nat) (a1 : Int) (a2 : Int) (σ : St) : Option (Int × St) :=
  z_ob 6 k0 <| 
  z_c1 (f_X6_hasTick F k0 a1 σ) fun v1 =>
  if v1 = 0 then (
    z_gt (-2) fun v2 =>
    some (v2, σ))
  else (
    z_c1 (f_X6_hasTick F k0 a2 σ) fun v3 =>
    if ¬ v3 = 0 then (
      z_gt 0 fun v4 =>
      z_c1 (f_X0_play F (k0 + 208) (k0 + 4) a1 v4 σ) fun σ1 =>
      z_gt 0 fun v5 =>
      z_c1 (f_X0_play F (k0 + 210) (k0 + 4) a2 v5 σ1) fun σ2 =>
      z_c1 (f_X0_unlike F (k0 + 208) (k0 + 210) σ2) fun v6 =>
      some (v6, σ2))
    else (
      z_gt (-2) fun v7 =>
      some (v7, σ)))
theorem cb_X6_differ : CB yX6_differ cX6_differ 3 (some .int) 2 := ⟨ki_X6_differ, kq_X6_differ, kn_X6, kc_X6_differ, by decide +kernel, by decide +kernel, by decide +kernel⟩
set_option maxRecDepth 20000 in
set_option maxHeartbeats 4000000 in
theorem m_X6_differ (l : Launch) (G : GG) (F : Nat) (k0 : Nat) (a1 : Int32) (a2 : Int32) (σ : St) : ∀ r, f_X6_differ F k0 a1.toInt a2.toInt σ = some r → MC G l yX6_differ cX6_differ 3 (some .int) { frames := 3, cells := 0, slots := 0, locals := 91 } [.ref (gad G k0), .int a1, .int a2] σ (vI r.1) r.2 := by
  refine MC_of (own := RX6) (fun r : Int × St => vI r.1) (fun r : Int × St => r.2) (by decide +kernel) rfl (Nat.le_of_ble_eq_true rfl) ?_
  intro p e s m args below meth c C hr hlo ls hl
  have hl : lv_has ls 3 [(0, .ref (gad G k0)), (1, .int a1), (2, .int a2)] := hl
  unfold f_X6_differ
  refine q_ob (fun hk0 => ?_)
  refine q_aload_n C dX6_differ_0 rfl (lv_at hl 0 rfl) ?_
  refine q_iload_n C dX6_differ_1 rfl (lv_at hl 1 rfl) ?_
  refine q_c1i C (fun r h => cr_V (As := [.int a1]) (rest := []) C (m_X6_hasTick l G F k0 a1 σ r h) cb_X6_hasTick hk0 (by decide) rfl (cf_6 hk0 _) rfl kl_X6_117 ⟨Nat.le_of_ble_eq_true rfl, Nat.le_of_ble_eq_true rfl⟩ ⟨Nat.zero_le _, Nat.zero_le _⟩ hl.1 rfl (Nat.le_of_ble_eq_true rfl) dX6_differ_2 rfl) (fun v1 => ?_)
  refine q_if_eq C 16 dX6_differ_5 (by decide) ?_ ?_
  · refine q_bipush C dX6_differ_16 rfl (by decide) (fun v2 => ?_)
    exact q_iretE C hr hlo dX6_differ_18
  · refine q_aload_n C dX6_differ_8 rfl (lv_at hl 0 rfl) ?_
    refine q_iload_n C dX6_differ_9 rfl (lv_at hl 2 rfl) ?_
    refine q_c1i C (fun r h => cr_V (As := [.int a2]) (rest := []) C (m_X6_hasTick l G F k0 a2 σ r h) cb_X6_hasTick hk0 (by decide) rfl (cf_6 hk0 _) rfl kl_X6_117 ⟨Nat.le_of_ble_eq_true rfl, Nat.le_of_ble_eq_true rfl⟩ ⟨Nat.zero_le _, Nat.zero_le _⟩ hl.1 rfl (Nat.le_of_ble_eq_true rfl) dX6_differ_10 rfl) (fun v3 => ?_)
    refine q_if_ne C 19 dX6_differ_13 (by decide) ?_ ?_
    · refine q_aload_n C dX6_differ_19 rfl (lv_at hl 0 rfl) ?_
      refine g_6_7 C hk0 kf_X6_49 dX6_differ_20 ?_
      refine q_aload_n C dX6_differ_23 rfl (lv_at hl 0 rfl) ?_
      refine g_6_1 C hk0 kf_X6_19 dX6_differ_24 ?_
      refine q_iload_n C dX6_differ_27 rfl (lv_at hl 1 rfl) ?_
      refine q_lconst C dX6_differ_28 rfl (by decide) (fun v4 => ?_)
      refine q_cv C (fun r h => cr_V (As := [.ref (gad G (k0 + 4)), .int a1, .long v4]) (rest := []) C (m_X0_play l G F (k0 + 208) (k0 + 4) a1 v4 σ r h) cb_X0_play (yk_6_7 hk0) (by decide) rfl (cf_0 (yk_6_7 hk0) _) rfl kl_X6_251 ⟨Nat.le_of_ble_eq_true rfl, Nat.le_of_ble_eq_true rfl⟩ ⟨Nat.zero_le _, Nat.zero_le _⟩ hl.1 rfl (Nat.le_of_ble_eq_true rfl) dX6_differ_29 rfl) (fun σ1 => ?_)
      refine q_aload_n C dX6_differ_32 rfl (lv_at hl 0 rfl) ?_
      refine g_6_8 C hk0 kf_X6_53 dX6_differ_33 ?_
      refine q_aload_n C dX6_differ_36 rfl (lv_at hl 0 rfl) ?_
      refine g_6_1 C hk0 kf_X6_19 dX6_differ_37 ?_
      refine q_iload_n C dX6_differ_40 rfl (lv_at hl 2 rfl) ?_
      refine q_lconst C dX6_differ_41 rfl (by decide) (fun v5 => ?_)
      refine q_cv C (fun r h => cr_V (As := [.ref (gad G (k0 + 4)), .int a2, .long v5]) (rest := []) C (m_X0_play l G F (k0 + 210) (k0 + 4) a2 v5 σ1 r h) cb_X0_play (yk_6_8 hk0) (by decide) rfl (cf_0 (yk_6_8 hk0) _) rfl kl_X6_251 ⟨Nat.le_of_ble_eq_true rfl, Nat.le_of_ble_eq_true rfl⟩ ⟨Nat.zero_le _, Nat.zero_le _⟩ hl.1 rfl (Nat.le_of_ble_eq_true rfl) dX6_differ_42 rfl) (fun σ2 => ?_)
      refine q_aload_n C dX6_differ_45 rfl (lv_at hl 0 rfl) ?_
      refine g_6_7 C hk0 kf_X6_49 dX6_differ_46 ?_
      refine q_aload_n C dX6_differ_49 rfl (lv_at hl 0 rfl) ?_
      refine g_6_8 C hk0 kf_X6_53 dX6_differ_50 ?_
      refine q_c1i C (fun r h => cr_V (As := [.ref (gad G (k0 + 210))]) (rest := []) C (m_X0_unlike l G F (k0 + 208) (k0 + 210) σ2 r h) cb_X0_unlike (yk_6_7 hk0) (by decide) rfl (cf_0 (yk_6_7 hk0) _) rfl kl_X6_255 ⟨Nat.le_of_ble_eq_true rfl, Nat.le_of_ble_eq_true rfl⟩ ⟨Nat.zero_le _, Nat.zero_le _⟩ hl.1 rfl (Nat.le_of_ble_eq_true rfl) dX6_differ_53 rfl) (fun v6 => ?_)
      exact q_iretE C hr hlo dX6_differ_56
    · refine q_bipush C dX6_differ_16 rfl (by decide) (fun v7 => ?_)
      exact q_iretE C hr hlo dX6_differ_18
def f_X6_same_L40 (F : Nat) (k0 : Nat) (a1 : Int)   : Nat → Int → St → Option (Int × St)
  | 0, _, _ => none
  | n + 1, x5, σ =>
    if a1 ≤ x5 then (
      some (a1, σ))
    else (
      z_c1 (f_X0_unlike F (k0 + 210) (k0 + 208) σ) fun v6 =>
      if ¬ v6 = 0 then (
        z_c2 (f_X0_apply F (k0 + 210) (k0 + 4) x5 σ) fun v7 σ3 =>
        z_ck (x5 + 1) fun v8 =>
        f_X6_same_L40 F k0 a1 n v8 σ3)
      else (
        some (x5, σ)))

def f_X6_same (F : Nat) (k0 : Nat) (a1 : Int) (σ : St) : Option (Int × St) :=
  z_ob 6 k0 <| 
  z_c1 (f_X6_hasTick F k0 a1 σ) fun v1 =>
  if ¬ v1 = 0 then (
    z_gt 0 fun v2 =>
    z_c1 (f_X0_play F (k0 + 208) (k0 + 4) a1 v2 σ) fun σ1 =>
    z_gt (σ1 (k0 + 4) 0) fun v3 =>
    z_c1 (f_X0_clear F (k0 + 210) v3 σ1) fun σ2 =>
    z_gt 0 fun v4 =>
    f_X6_same_L40 F k0 a1 F v4 σ2)
  else (
    z_gt (-2) fun v9 =>
    some (v9, σ))
theorem cb_X6_same : CB yX6_same cX6_same 3 (some .int) 1 := ⟨ki_X6_same, kq_X6_same, kn_X6, kc_X6_same, by decide +kernel, by decide +kernel, by decide +kernel⟩
set_option maxRecDepth 20000 in
set_option maxHeartbeats 4000000 in
theorem m_X6_same (l : Launch) (G : GG) (F : Nat) (k0 : Nat) (a1 : Int32) (σ : St) : ∀ r, f_X6_same F k0 a1.toInt σ = some r → MC G l yX6_same cX6_same 3 (some .int) { frames := 3, cells := 0, slots := 0, locals := 91 } [.ref (gad G k0), .int a1] σ (vI r.1) r.2 := by
  refine MC_of (own := RX6) (fun r : Int × St => vI r.1) (fun r : Int × St => r.2) (by decide +kernel) rfl (Nat.le_of_ble_eq_true rfl) ?_
  intro p e s m args below meth c C hr hlo ls hl
  have hl : lv_has ls 3 [(0, .ref (gad G k0)), (1, .int a1)] := hl
  unfold f_X6_same
  refine q_ob (fun hk0 => ?_)
  have B40 : ∀ (n : Nat) (x5 : Int32) (σ : St) (ls : Array Slot), lv_has ls 3 [(0, .ref (gad G k0)), (1, .int a1), (2, .int x5)] → Sim G (AG G) 0 0 p l e { frames := 3, cells := 0, slots := 0, locals := 91 } s m args below meth c (fun r : Int × St => MQ below (QC G (vI r.1) (r.2)) args s 0 0 (AG G)) σ (f_X6_same_L40 F k0 a1.toInt   n x5.toInt σ) (F0 m 40 ls []) := by
    intro n
    induction n with
    | zero =>
      intro x5 σ ls hl
      exact sim_none
    | succ n ih =>
      intro x5 σ ls hl
      rw [f_X6_same_L40]
      refine q_iload_n C dX6_same_40 rfl (lv_at hl 2 rfl) ?_
      refine q_iload_n C dX6_same_41 rfl (lv_at hl 1 rfl) ?_
      refine q_icmp_ge C 80 dX6_same_42 (by decide) ?_ ?_
      · refine q_iload_n C dX6_same_80 rfl (lv_at hl 1 rfl) ?_
        exact q_iretE C hr hlo dX6_same_81
      · refine q_aload_n C dX6_same_45 rfl (lv_at hl 0 rfl) ?_
        refine g_6_8 C hk0 kf_X6_53 dX6_same_46 ?_
        refine q_aload_n C dX6_same_49 rfl (lv_at hl 0 rfl) ?_
        refine g_6_7 C hk0 kf_X6_49 dX6_same_50 ?_
        refine q_c1i C (fun r h => cr_V (As := [.ref (gad G (k0 + 208))]) (rest := []) C (m_X0_unlike l G F (k0 + 210) (k0 + 208) σ r h) cb_X0_unlike (yk_6_8 hk0) (by decide) rfl (cf_0 (yk_6_8 hk0) _) rfl kl_X6_255 ⟨Nat.le_of_ble_eq_true rfl, Nat.le_of_ble_eq_true rfl⟩ ⟨Nat.zero_le _, Nat.zero_le _⟩ hl.1 rfl (Nat.le_of_ble_eq_true rfl) dX6_same_53 rfl) (fun v6 => ?_)
        refine q_if_ne C 61 dX6_same_56 (by decide) ?_ ?_
        · refine q_aload_n C dX6_same_61 rfl (lv_at hl 0 rfl) ?_
          refine g_6_8 C hk0 kf_X6_53 dX6_same_62 ?_
          refine q_aload_n C dX6_same_65 rfl (lv_at hl 0 rfl) ?_
          refine g_6_1 C hk0 kf_X6_19 dX6_same_66 ?_
          refine q_iload_n C dX6_same_69 rfl (lv_at hl 2 rfl) ?_
          refine q_c2i C (fun r h => cr_V (As := [.ref (gad G (k0 + 4)), .int x5]) (rest := []) C (m_X0_apply l G F (k0 + 210) (k0 + 4) x5 σ r h) cb_X0_apply (yk_6_8 hk0) (by decide) rfl (cf_0 (yk_6_8 hk0) _) rfl kl_X6_235 ⟨Nat.le_of_ble_eq_true rfl, Nat.le_of_ble_eq_true rfl⟩ ⟨Nat.zero_le _, Nat.zero_le _⟩ hl.1 rfl (Nat.le_of_ble_eq_true rfl) dX6_same_70 rfl) (fun v7 σ3 => ?_)
          refine q_pop C dX6_same_73 rfl ?_
          refine q_iinc (k := 2) C (fun v8 => [(2, .int v8), (0, .ref (gad G k0)), (1, .int a1)]) dX6_same_74 hl rfl (by decide) (by decide) (fun _ => rfl) (fun v8 ls hl => ?_)
          refine q_goto C 40 dX6_same_77 (by decide) ?_
          exact ih v8 σ3 ls (lv_sub hl [1, 2, 0] rfl)
        · refine q_iload_n C dX6_same_59 rfl (lv_at hl 2 rfl) ?_
          exact q_iretE C hr hlo dX6_same_60
  refine q_aload_n C dX6_same_0 rfl (lv_at hl 0 rfl) ?_
  refine q_iload_n C dX6_same_1 rfl (lv_at hl 1 rfl) ?_
  refine q_c1i C (fun r h => cr_V (As := [.int a1]) (rest := []) C (m_X6_hasTick l G F k0 a1 σ r h) cb_X6_hasTick hk0 (by decide) rfl (cf_6 hk0 _) rfl kl_X6_117 ⟨Nat.le_of_ble_eq_true rfl, Nat.le_of_ble_eq_true rfl⟩ ⟨Nat.zero_le _, Nat.zero_le _⟩ hl.1 rfl (Nat.le_of_ble_eq_true rfl) dX6_same_2 rfl) (fun v1 => ?_)
  refine q_if_ne C 11 dX6_same_5 (by decide) ?_ ?_
  · refine q_aload_n C dX6_same_11 rfl (lv_at hl 0 rfl) ?_
    refine g_6_7 C hk0 kf_X6_49 dX6_same_12 ?_
    refine q_aload_n C dX6_same_15 rfl (lv_at hl 0 rfl) ?_
    refine g_6_1 C hk0 kf_X6_19 dX6_same_16 ?_
    refine q_iload_n C dX6_same_19 rfl (lv_at hl 1 rfl) ?_
    refine q_lconst C dX6_same_20 rfl (by decide) (fun v2 => ?_)
    refine q_cv C (fun r h => cr_V (As := [.ref (gad G (k0 + 4)), .int a1, .long v2]) (rest := []) C (m_X0_play l G F (k0 + 208) (k0 + 4) a1 v2 σ r h) cb_X0_play (yk_6_7 hk0) (by decide) rfl (cf_0 (yk_6_7 hk0) _) rfl kl_X6_251 ⟨Nat.le_of_ble_eq_true rfl, Nat.le_of_ble_eq_true rfl⟩ ⟨Nat.zero_le _, Nat.zero_le _⟩ hl.1 rfl (Nat.le_of_ble_eq_true rfl) dX6_same_21 rfl) (fun σ1 => ?_)
    refine q_aload_n C dX6_same_24 rfl (lv_at hl 0 rfl) ?_
    refine g_6_8 C hk0 kf_X6_53 dX6_same_25 ?_
    refine q_aload_n C dX6_same_28 rfl (lv_at hl 0 rfl) ?_
    refine g_6_1 C hk0 kf_X6_19 dX6_same_29 ?_
    refine g_4_0 C (yk_6_1 hk0) kf_X6_226 dX6_same_32 (fun v3 => ?_)
    refine q_cv C (fun r h => cr_V (As := [.int v3]) (rest := []) C (m_X0_clear l G F (k0 + 210) v3 σ1 r h) cb_X0_clear (yk_6_8 hk0) (by decide) rfl (cf_0 (yk_6_8 hk0) _) rfl kl_X6_229 ⟨Nat.le_of_ble_eq_true rfl, Nat.le_of_ble_eq_true rfl⟩ ⟨Nat.zero_le _, Nat.zero_le _⟩ hl.1 rfl (Nat.le_of_ble_eq_true rfl) dX6_same_35 rfl) (fun σ2 => ?_)
    refine q_iconst C dX6_same_38 rfl (by decide) (fun v4 => ?_)
    refine q_istore_n C [(2, .int v4), (0, .ref (gad G k0)), (1, .int a1)] dX6_same_39 rfl hl (by decide) rfl (fun ls hl => ?_)
    exact B40 F v4 σ2 ls (lv_sub hl [1, 2, 0] rfl)
  · refine q_bipush C dX6_same_8 rfl (by decide) (fun v9 => ?_)
    exact q_iretE C hr hlo dX6_same_10
def f_X6_keptByPace_J87 (F : Nat) (k0 : Nat) (a1 : Int) (K24 : Int → Int → Int → Int → St → Option (Int × St))  (x12 : Int) (x13 : Int) (x14 : Int) (x15 : Int) (σ : St) : Option (Int × St) :=
  z_c2 (f_X0_apply F (k0 + 208) (k0 + 4) x15 σ) fun v16 σ2 =>
  z_gt (z_or x14 v16) fun v17 =>
  z_ck (x13 + 1) fun v18 =>
  z_ck (x15 + 1) fun v19 =>
  K24 x12 v18 v17 v19 σ2

def f_X6_keptByPace_L24 (F : Nat) (k0 : Nat) (a1 : Int)   : Nat → Int → Int → Int → Int → St → Option (Int × St)
  | 0, _, _, _, _, _ => none
  | n + 1, x6, x7, x8, x9, σ =>
    z_c1 (f_X4_size F (k0 + 4) σ) fun v10 =>
    if v10 ≤ x9 then (
      some (x6, σ))
    else (
      z_c1 (f_X4_isCommand F (k0 + 4) x9 σ) fun v11 =>
      if ¬ v11 = 0 then (
        if ¬ x7 = 0 then (
          if a1 ≤ 0 then (
            f_X6_keptByPace_J87 F k0 a1 (f_X6_keptByPace_L24 F k0 a1 n) x6 x7 x8 x9 σ)
          else (
            z_nz a1 <| z_gt (x7.tmod a1) fun v20 =>
            if ¬ v20 = 0 then (
              f_X6_keptByPace_J87 F k0 a1 (f_X6_keptByPace_L24 F k0 a1 n) x6 x7 x8 x9 σ)
            else (
              z_c1 (f_J6_bitCount_0f7a4 F x8 σ) fun v21 =>
              z_ck (x6 + v21) fun v22 =>
              z_gt 0 fun v23 =>
              f_X6_keptByPace_J87 F k0 a1 (f_X6_keptByPace_L24 F k0 a1 n) v22 x7 v23 x9 σ)))
        else (
          z_gt (σ (k0 + 4) 0) fun v24 =>
          f_X6_keptByPace_J87 F k0 a1 (f_X6_keptByPace_L24 F k0 a1 n) v24 x7 x8 x9 σ))
      else (
        z_ck (x9 + 1) fun v25 =>
        f_X6_keptByPace_L24 F k0 a1 n x6 x7 x8 v25 σ))

def f_X6_keptByPace (F : Nat) (k0 : Nat) (a1 : Int) (σ : St) : Option (Int × St) :=
  z_ob 6 k0 <| 
  z_gt 0 fun v1 =>
  z_gt 0 fun v2 =>
  z_gt 0 fun v3 =>
  z_gt (σ (k0 + 4) 0) fun v4 =>
  z_c1 (f_X0_clear F (k0 + 208) v4 σ) fun σ1 =>
  z_gt 0 fun v5 =>
  f_X6_keptByPace_L24 F k0 a1 F v1 v2 v3 v5 σ1
theorem cb_X6_keptByPace : CB yX6_keptByPace cX6_keptByPace 6 (some .int) 1 := ⟨ki_X6_keptByPace, kq_X6_keptByPace, kn_X6, kc_X6_keptByPace, by decide +kernel, by decide +kernel, by decide +kernel⟩
set_option maxRecDepth 20000 in
set_option maxHeartbeats 4000000 in
theorem m_X6_keptByPace (l : Launch) (G : GG) (F : Nat) (k0 : Nat) (a1 : Int32) (σ : St) : ∀ r, f_X6_keptByPace F k0 a1.toInt σ = some r → MC G l yX6_keptByPace cX6_keptByPace 6 (some .int) { frames := 2, cells := 0, slots := 0, locals := 66 } [.ref (gad G k0), .int a1] σ (vI r.1) r.2 := by
  refine MC_of (own := RX6) (fun r : Int × St => vI r.1) (fun r : Int × St => r.2) (by decide +kernel) rfl (Nat.le_of_ble_eq_true rfl) ?_
  intro p e s m args below meth c C hr hlo ls hl
  have hl : lv_has ls 6 [(0, .ref (gad G k0)), (1, .int a1)] := hl
  unfold f_X6_keptByPace
  refine q_ob (fun hk0 => ?_)
  have B87 : ∀ (K24 : Int → Int → Int → Int → St → Option (Int × St)) (hK24 : ∀ (y0 : Int32) (y1 : Int32) (y2 : Int32) (y3 : Int32) (σ : St) (ls : Array Slot), lv_has ls 6 [(0, .ref (gad G k0)), (1, .int a1), (2, .int y0), (3, .int y1), (4, .int y2), (5, .int y3)] → Sim G (AG G) 0 0 p l e { frames := 2, cells := 0, slots := 0, locals := 66 } s m args below meth c (fun r : Int × St => MQ below (QC G (vI r.1) (r.2)) args s 0 0 (AG G)) σ (K24 y0.toInt y1.toInt y2.toInt y3.toInt σ) (F0 m 24 ls [])), ∀  (x12 : Int32) (x13 : Int32) (x14 : Int32) (x15 : Int32) (σ : St) (ls : Array Slot), lv_has ls 6 [(0, .ref (gad G k0)), (1, .int a1), (2, .int x12), (3, .int x13), (4, .int x14), (5, .int x15)] → Sim G (AG G) 0 0 p l e { frames := 2, cells := 0, slots := 0, locals := 66 } s m args below meth c (fun r : Int × St => MQ below (QC G (vI r.1) (r.2)) args s 0 0 (AG G)) σ (f_X6_keptByPace_J87 F k0 a1.toInt K24   x12.toInt x13.toInt x14.toInt x15.toInt σ) (F0 m 87 ls []) := by
    intro K24 hK24
    intro x12 x13 x14 x15 σ ls hl
    unfold f_X6_keptByPace_J87
    refine q_iload C dX6_keptByPace_87 (lv_at hl 4 rfl) ?_
    refine q_aload_n C dX6_keptByPace_89 rfl (lv_at hl 0 rfl) ?_
    refine g_6_7 C hk0 kf_X6_49 dX6_keptByPace_90 ?_
    refine q_aload_n C dX6_keptByPace_93 rfl (lv_at hl 0 rfl) ?_
    refine g_6_1 C hk0 kf_X6_19 dX6_keptByPace_94 ?_
    refine q_iload C dX6_keptByPace_97 (lv_at hl 5 rfl) ?_
    refine q_c2i C (fun r h => cr_V (As := [.ref (gad G (k0 + 4)), .int x15]) (rest := [.int x14]) C (m_X0_apply l G F (k0 + 208) (k0 + 4) x15 σ r h) cb_X0_apply (yk_6_7 hk0) (by decide) rfl (cf_0 (yk_6_7 hk0) _) rfl kl_X6_235 ⟨Nat.le_of_ble_eq_true rfl, Nat.le_of_ble_eq_true rfl⟩ ⟨Nat.zero_le _, Nat.zero_le _⟩ hl.1 rfl (Nat.le_of_ble_eq_true rfl) dX6_keptByPace_99 rfl) (fun v16 σ2 => ?_)
    refine q_ior C dX6_keptByPace_102 (fun v17 => ?_)
    refine q_istore C [(4, .int v17), (0, .ref (gad G k0)), (1, .int a1), (2, .int x12), (3, .int x13), (5, .int x15)] dX6_keptByPace_103 hl (by decide) rfl (fun ls hl => ?_)
    refine q_iinc (k := 4) C (fun v18 => [(3, .int v18), (4, .int v17), (0, .ref (gad G k0)), (1, .int a1), (2, .int x12), (5, .int x15)]) dX6_keptByPace_105 hl rfl (by decide) (by decide) (fun _ => rfl) (fun v18 ls hl => ?_)
    refine q_iinc (k := 5) C (fun v19 => [(5, .int v19), (3, .int v18), (4, .int v17), (0, .ref (gad G k0)), (1, .int a1), (2, .int x12)]) dX6_keptByPace_108 hl rfl (by decide) (by decide) (fun _ => rfl) (fun v19 ls hl => ?_)
    refine q_goto C 24 dX6_keptByPace_111 (by decide) ?_
    exact hK24 x12 v18 v17 v19 σ2 ls (lv_sub hl [3, 4, 5, 1, 2, 0] rfl)
  have B24 : ∀ (n : Nat) (x6 : Int32) (x7 : Int32) (x8 : Int32) (x9 : Int32) (σ : St) (ls : Array Slot), lv_has ls 6 [(0, .ref (gad G k0)), (1, .int a1), (2, .int x6), (3, .int x7), (4, .int x8), (5, .int x9)] → Sim G (AG G) 0 0 p l e { frames := 2, cells := 0, slots := 0, locals := 66 } s m args below meth c (fun r : Int × St => MQ below (QC G (vI r.1) (r.2)) args s 0 0 (AG G)) σ (f_X6_keptByPace_L24 F k0 a1.toInt   n x6.toInt x7.toInt x8.toInt x9.toInt σ) (F0 m 24 ls []) := by
    intro n
    induction n with
    | zero =>
      intro x6 x7 x8 x9 σ ls hl
      exact sim_none
    | succ n ih =>
      intro x6 x7 x8 x9 σ ls hl
      rw [f_X6_keptByPace_L24]
      refine q_iload C dX6_keptByPace_24 (lv_at hl 5 rfl) ?_
      refine q_aload_n C dX6_keptByPace_26 rfl (lv_at hl 0 rfl) ?_
      refine g_6_1 C hk0 kf_X6_19 dX6_keptByPace_27 ?_
      refine q_c1i C (fun r h => cr_V (As := []) (rest := [.int x9]) C (m_X4_size l G F (k0 + 4) σ r h) cb_X4_size (yk_6_1 hk0) (by decide) rfl (cf_4 (yk_6_1 hk0) _) rfl kl_X6_249 ⟨Nat.le_of_ble_eq_true rfl, Nat.le_of_ble_eq_true rfl⟩ ⟨Nat.zero_le _, Nat.zero_le _⟩ hl.1 rfl (Nat.le_of_ble_eq_true rfl) dX6_keptByPace_30 rfl) (fun v10 => ?_)
      refine q_icmp_ge C 114 dX6_keptByPace_33 (by decide) ?_ ?_
      · refine q_iload_n C dX6_keptByPace_114 rfl (lv_at hl 2 rfl) ?_
        exact q_iretE C hr hlo dX6_keptByPace_115
      · refine q_aload_n C dX6_keptByPace_36 rfl (lv_at hl 0 rfl) ?_
        refine g_6_1 C hk0 kf_X6_19 dX6_keptByPace_37 ?_
        refine q_iload C dX6_keptByPace_40 (lv_at hl 5 rfl) ?_
        refine q_c1i C (fun r h => cr_V (As := [.int x9]) (rest := []) C (m_X4_isCommand l G F (k0 + 4) x9 σ r h) cb_X4_isCommand (yk_6_1 hk0) (by decide) rfl (cf_4 (yk_6_1 hk0) _) rfl kl_X6_220 ⟨Nat.le_of_ble_eq_true rfl, Nat.le_of_ble_eq_true rfl⟩ ⟨Nat.zero_le _, Nat.zero_le _⟩ hl.1 rfl (Nat.le_of_ble_eq_true rfl) dX6_keptByPace_42 rfl) (fun v11 => ?_)
        refine q_if_ne C 51 dX6_keptByPace_45 (by decide) ?_ ?_
        · refine q_iload_n C dX6_keptByPace_51 rfl (lv_at hl 3 rfl) ?_
          refine q_if_ne C 66 dX6_keptByPace_52 (by decide) ?_ ?_
          · refine q_iload_n C dX6_keptByPace_66 rfl (lv_at hl 1 rfl) ?_
            refine q_if_le C 87 dX6_keptByPace_67 (by decide) ?_ ?_
            · exact B87 (f_X6_keptByPace_L24 F k0 a1.toInt n) ih x6 x7 x8 x9 σ ls (lv_sub hl [0, 1, 2, 3, 4, 5] rfl)
            · refine q_iload_n C dX6_keptByPace_70 rfl (lv_at hl 3 rfl) ?_
              refine q_iload_n C dX6_keptByPace_71 rfl (lv_at hl 1 rfl) ?_
              refine q_irem C dX6_keptByPace_72 (fun v20 => ?_)
              refine q_if_ne C 87 dX6_keptByPace_73 (by decide) ?_ ?_
              · exact B87 (f_X6_keptByPace_L24 F k0 a1.toInt n) ih x6 x7 x8 x9 σ ls (lv_sub hl [0, 1, 2, 3, 4, 5] rfl)
              · refine q_iload_n C dX6_keptByPace_76 rfl (lv_at hl 2 rfl) ?_
                refine q_iload C dX6_keptByPace_77 (lv_at hl 4 rfl) ?_
                refine q_c1i C (fun r h => cr_S (As := [.int x8]) (rest := [.int x6]) C (m_J6_bitCount_0f7a4 l G F x8 σ r h) sb_J6_bitCount_0f7a4 kl_X6_132 ⟨Nat.le_of_ble_eq_true rfl, Nat.le_of_ble_eq_true rfl⟩ ⟨Nat.zero_le _, Nat.zero_le _⟩ hl.1 rfl (Nat.le_of_ble_eq_true rfl) dX6_keptByPace_79 rfl) (fun v21 => ?_)
                refine q_iadd C dX6_keptByPace_82 (fun v22 => ?_)
                refine q_istore_n C [(2, .int v22), (0, .ref (gad G k0)), (1, .int a1), (3, .int x7), (4, .int x8), (5, .int x9)] dX6_keptByPace_83 rfl hl (by decide) rfl (fun ls hl => ?_)
                refine q_iconst C dX6_keptByPace_84 rfl (by decide) (fun v23 => ?_)
                refine q_istore C [(4, .int v23), (2, .int v22), (0, .ref (gad G k0)), (1, .int a1), (3, .int x7), (5, .int x9)] dX6_keptByPace_85 hl (by decide) rfl (fun ls hl => ?_)
                exact B87 (f_X6_keptByPace_L24 F k0 a1.toInt n) ih v22 x7 v23 x9 σ ls (lv_sub hl [2, 3, 1, 4, 0, 5] rfl)
          · refine q_aload_n C dX6_keptByPace_55 rfl (lv_at hl 0 rfl) ?_
            refine g_6_1 C hk0 kf_X6_19 dX6_keptByPace_56 ?_
            refine g_4_0 C (yk_6_1 hk0) kf_X6_226 dX6_keptByPace_59 (fun v24 => ?_)
            refine q_istore_n C [(2, .int v24), (0, .ref (gad G k0)), (1, .int a1), (3, .int x7), (4, .int x8), (5, .int x9)] dX6_keptByPace_62 rfl hl (by decide) rfl (fun ls hl => ?_)
            refine q_goto C 87 dX6_keptByPace_63 (by decide) ?_
            exact B87 (f_X6_keptByPace_L24 F k0 a1.toInt n) ih v24 x7 x8 x9 σ ls (lv_sub hl [1, 2, 0, 3, 4, 5] rfl)
        · refine q_goto C 108 dX6_keptByPace_48 (by decide) ?_
          refine q_iinc (k := 5) C (fun v25 => [(5, .int v25), (0, .ref (gad G k0)), (1, .int a1), (2, .int x6), (3, .int x7), (4, .int x8)]) dX6_keptByPace_108 hl rfl (by decide) (by decide) (fun _ => rfl) (fun v25 ls hl => ?_)
          refine q_goto C 24 dX6_keptByPace_111 (by decide) ?_
          exact ih x6 x7 x8 v25 σ ls (lv_sub hl [1, 2, 3, 4, 5, 0] rfl)
  refine q_iconst C dX6_keptByPace_0 rfl (by decide) (fun v1 => ?_)
  refine q_istore_n C [(2, .int v1), (0, .ref (gad G k0)), (1, .int a1)] dX6_keptByPace_1 rfl hl (by decide) rfl (fun ls hl => ?_)
  refine q_iconst C dX6_keptByPace_2 rfl (by decide) (fun v2 => ?_)
  refine q_istore_n C [(3, .int v2), (2, .int v1), (0, .ref (gad G k0)), (1, .int a1)] dX6_keptByPace_3 rfl hl (by decide) rfl (fun ls hl => ?_)
  refine q_iconst C dX6_keptByPace_4 rfl (by decide) (fun v3 => ?_)
  refine q_istore C [(4, .int v3), (3, .int v2), (2, .int v1), (0, .ref (gad G k0)), (1, .int a1)] dX6_keptByPace_5 hl (by decide) rfl (fun ls hl => ?_)
  refine q_aload_n C dX6_keptByPace_7 rfl (lv_at hl 3 rfl) ?_
  refine g_6_7 C hk0 kf_X6_49 dX6_keptByPace_8 ?_
  refine q_aload_n C dX6_keptByPace_11 rfl (lv_at hl 3 rfl) ?_
  refine g_6_1 C hk0 kf_X6_19 dX6_keptByPace_12 ?_
  refine g_4_0 C (yk_6_1 hk0) kf_X6_226 dX6_keptByPace_15 (fun v4 => ?_)
  refine q_cv C (fun r h => cr_V (As := [.int v4]) (rest := []) C (m_X0_clear l G F (k0 + 208) v4 σ r h) cb_X0_clear (yk_6_7 hk0) (by decide) rfl (cf_0 (yk_6_7 hk0) _) rfl kl_X6_229 ⟨Nat.le_of_ble_eq_true rfl, Nat.le_of_ble_eq_true rfl⟩ ⟨Nat.zero_le _, Nat.zero_le _⟩ hl.1 rfl (Nat.le_of_ble_eq_true rfl) dX6_keptByPace_18 rfl) (fun σ1 => ?_)
  refine q_iconst C dX6_keptByPace_21 rfl (by decide) (fun v5 => ?_)
  refine q_istore C [(5, .int v5), (4, .int v3), (3, .int v2), (2, .int v1), (0, .ref (gad G k0)), (1, .int a1)] dX6_keptByPace_22 hl (by decide) rfl (fun ls hl => ?_)
  exact B24 F v1 v2 v3 v5 σ1 ls (lv_sub hl [4, 5, 3, 2, 1, 0] rfl)
def f_X6_pace (F : Nat) (k0 : Nat) (a1 : Int) (σ : St) : Option (Int × St) :=
  z_ob 6 k0 <| 
  z_c1 (f_X4_exists F (k0 + 4) σ) fun v1 =>
  if v1 = 0 then (
    z_gt (-2) fun v2 =>
    some (v2, σ))
  else (
    z_gt 1 fun v3 =>
    if a1 < v3 then (
      z_gt (-2) fun v4 =>
      some (v4, σ))
    else (
      z_gt 20 fun v5 =>
      if a1 ≤ v5 then (
        z_c2 (f_X6_keptByPace F k0 a1 σ) fun v6 σ1 =>
        some (v6, σ1))
      else (
        z_gt (-2) fun v7 =>
        some (v7, σ))))
theorem cb_X6_pace : CB yX6_pace cX6_pace 2 (some .int) 1 := ⟨ki_X6_pace, kq_X6_pace, kn_X6, kc_X6_pace, by decide +kernel, by decide +kernel, by decide +kernel⟩
set_option maxRecDepth 20000 in
set_option maxHeartbeats 4000000 in
theorem m_X6_pace (l : Launch) (G : GG) (F : Nat) (k0 : Nat) (a1 : Int32) (σ : St) : ∀ r, f_X6_pace F k0 a1.toInt σ = some r → MC G l yX6_pace cX6_pace 2 (some .int) { frames := 3, cells := 0, slots := 0, locals := 91 } [.ref (gad G k0), .int a1] σ (vI r.1) r.2 := by
  refine MC_of (own := RX6) (fun r : Int × St => vI r.1) (fun r : Int × St => r.2) (by decide +kernel) rfl (Nat.le_of_ble_eq_true rfl) ?_
  intro p e s m args below meth c C hr hlo ls hl
  have hl : lv_has ls 2 [(0, .ref (gad G k0)), (1, .int a1)] := hl
  unfold f_X6_pace
  refine q_ob (fun hk0 => ?_)
  refine q_aload_n C dX6_pace_0 rfl (lv_at hl 0 rfl) ?_
  refine g_6_1 C hk0 kf_X6_19 dX6_pace_1 ?_
  refine q_c1i C (fun r h => cr_V (As := []) (rest := []) C (m_X4_exists l G F (k0 + 4) σ r h) cb_X4_exists (yk_6_1 hk0) (by decide) rfl (cf_4 (yk_6_1 hk0) _) rfl kl_X6_245 ⟨Nat.le_of_ble_eq_true rfl, Nat.le_of_ble_eq_true rfl⟩ ⟨Nat.zero_le _, Nat.zero_le _⟩ hl.1 rfl (Nat.le_of_ble_eq_true rfl) dX6_pace_4 rfl) (fun v1 => ?_)
  refine q_if_eq C 21 dX6_pace_7 (by decide) ?_ ?_
  · refine q_bipush C dX6_pace_21 rfl (by decide) (fun v2 => ?_)
    exact q_iretE C hr hlo dX6_pace_23
  · refine q_iload_n C dX6_pace_10 rfl (lv_at hl 1 rfl) ?_
    refine q_iconst C dX6_pace_11 rfl (by decide) (fun v3 => ?_)
    refine q_icmp_lt C 21 dX6_pace_12 (by decide) ?_ ?_
    · refine q_bipush C dX6_pace_21 rfl (by decide) (fun v4 => ?_)
      exact q_iretE C hr hlo dX6_pace_23
    · refine q_iload_n C dX6_pace_15 rfl (lv_at hl 1 rfl) ?_
      refine q_bipush C dX6_pace_16 rfl (by decide) (fun v5 => ?_)
      refine q_icmp_le C 24 dX6_pace_18 (by decide) ?_ ?_
      · refine q_aload_n C dX6_pace_24 rfl (lv_at hl 0 rfl) ?_
        refine q_iload_n C dX6_pace_25 rfl (lv_at hl 1 rfl) ?_
        refine q_c2i C (fun r h => cr_V (As := [.int a1]) (rest := []) C (m_X6_keptByPace l G F k0 a1 σ r h) cb_X6_keptByPace hk0 (by decide) rfl (cf_6 hk0 _) rfl kl_X6_259 ⟨Nat.le_of_ble_eq_true rfl, Nat.le_of_ble_eq_true rfl⟩ ⟨Nat.zero_le _, Nat.zero_le _⟩ hl.1 rfl (Nat.le_of_ble_eq_true rfl) dX6_pace_26 rfl) (fun v6 σ1 => ?_)
        exact q_iretE C hr hlo dX6_pace_29
      · refine q_bipush C dX6_pace_21 rfl (by decide) (fun v7 => ?_)
        exact q_iretE C hr hlo dX6_pace_23
def f_X6_best_J51 (F : Nat) (k0 : Nat) (K28 : Int → Int → Int → Int → St → Option (Int × St))  (x16 : Int) (x17 : Int) (x18 : Int) (x19 : Int) (x20 : Int) (σ : St) : Option (Int × St) :=
  z_c2 (f_X6_keptByPace F k0 x19 σ) fun v21 σ1 =>
  z_gt 2 fun v22 =>
  z_ck (v22 * x20) fun v23 =>
  z_ck (v21 + v23) fun v24 =>
  z_gt 1 fun v25 =>
  if x19 = v25 then (
    z_ck (x19 + 1) fun v26 =>
    K28 x16 x19 v24 v26 σ1)
  else (
    if x18 ≤ v24 then (
      z_ck (x19 + 1) fun v27 =>
      K28 x16 x17 x18 v27 σ1)
    else (
      z_ck (x19 + 1) fun v28 =>
      K28 x16 x19 v24 v28 σ1))

def f_X6_best_L28 (F : Nat) (k0 : Nat)   : Nat → Int → Int → Int → Int → St → Option (Int × St)
  | 0, _, _, _, _, _ => none
  | n + 1, x6, x7, x8, x9, σ =>
    z_gt 20 fun v10 =>
    if v10 < x9 then (
      some (x7, σ))
    else (
      if ¬ x6 = 0 then (
        z_gt 1 fun v11 =>
        z_ck (x6 - v11) fun v12 =>
        z_nz x9 <| z_gt (v12.tmod x9) fun v13 =>
        z_gt 1 fun v14 =>
        z_ck (v13 + v14) fun v15 =>
        f_X6_best_J51 F k0 (f_X6_best_L28 F k0 n) x6 x7 x8 x9 v15 σ)
      else (
        z_gt 0 fun v29 =>
        f_X6_best_J51 F k0 (f_X6_best_L28 F k0 n) x6 x7 x8 x9 v29 σ))

def f_X6_best (F : Nat) (k0 : Nat) (σ : St) : Option (Int × St) :=
  z_ob 6 k0 <| 
  z_c1 (f_X4_exists F (k0 + 4) σ) fun v1 =>
  if ¬ v1 = 0 then (
    z_c1 (f_X4_commands F (k0 + 4) σ) fun v2 =>
    z_gt 1 fun v3 =>
    z_gt 0 fun v4 =>
    z_gt 1 fun v5 =>
    f_X6_best_L28 F k0 F v2 v3 v4 v5 σ)
  else (
    z_gt (-2) fun v30 =>
    some (v30, σ))
theorem cb_X6_best : CB yX6_best cX6_best 7 (some .int) 0 := ⟨ki_X6_best, kq_X6_best, kn_X6, kc_X6_best, by decide +kernel, by decide +kernel, by decide +kernel⟩
set_option maxRecDepth 20000 in
set_option maxHeartbeats 4000000 in
theorem m_X6_best (l : Launch) (G : GG) (F : Nat) (k0 : Nat) (σ : St) : ∀ r, f_X6_best F k0 σ = some r → MC G l yX6_best cX6_best 7 (some .int) { frames := 3, cells := 0, slots := 0, locals := 91 } [.ref (gad G k0)] σ (vI r.1) r.2 := by
  refine MC_of (own := RX6) (fun r : Int × St => vI r.1) (fun r : Int × St => r.2) (by decide +kernel) rfl (Nat.le_of_ble_eq_true rfl) ?_
  intro p e s m args below meth c C hr hlo ls hl
  have hl : lv_has ls 7 [(0, .ref (gad G k0))] := hl
  unfold f_X6_best
  refine q_ob (fun hk0 => ?_)
  have B51 : ∀ (K28 : Int → Int → Int → Int → St → Option (Int × St)) (hK28 : ∀ (y0 : Int32) (y1 : Int32) (y2 : Int32) (y3 : Int32) (σ : St) (ls : Array Slot), lv_has ls 7 [(0, .ref (gad G k0)), (1, .int y0), (2, .int y1), (3, .int y2), (4, .int y3)] → Sim G (AG G) 0 0 p l e { frames := 3, cells := 0, slots := 0, locals := 91 } s m args below meth c (fun r : Int × St => MQ below (QC G (vI r.1) (r.2)) args s 0 0 (AG G)) σ (K28 y0.toInt y1.toInt y2.toInt y3.toInt σ) (F0 m 28 ls [])), ∀  (x16 : Int32) (x17 : Int32) (x18 : Int32) (x19 : Int32) (x20 : Int32) (σ : St) (ls : Array Slot), lv_has ls 7 [(0, .ref (gad G k0)), (1, .int x16), (2, .int x17), (3, .int x18), (4, .int x19)] → Sim G (AG G) 0 0 p l e { frames := 3, cells := 0, slots := 0, locals := 91 } s m args below meth c (fun r : Int × St => MQ below (QC G (vI r.1) (r.2)) args s 0 0 (AG G)) σ (f_X6_best_J51 F k0 K28   x16.toInt x17.toInt x18.toInt x19.toInt x20.toInt σ) (F0 m 51 ls [.int x20]) := by
    intro K28 hK28
    intro x16 x17 x18 x19 x20 σ ls hl
    unfold f_X6_best_J51
    refine q_istore C [(5, .int x20), (0, .ref (gad G k0)), (1, .int x16), (2, .int x17), (3, .int x18), (4, .int x19)] dX6_best_51 hl (by decide) rfl (fun ls hl => ?_)
    refine q_aload_n C dX6_best_53 rfl (lv_at hl 1 rfl) ?_
    refine q_iload C dX6_best_54 (lv_at hl 5 rfl) ?_
    refine q_c2i C (fun r h => cr_V (As := [.int x19]) (rest := []) C (m_X6_keptByPace l G F k0 x19 σ r h) cb_X6_keptByPace hk0 (by decide) rfl (cf_6 hk0 _) rfl kl_X6_259 ⟨Nat.le_of_ble_eq_true rfl, Nat.le_of_ble_eq_true rfl⟩ ⟨Nat.zero_le _, Nat.zero_le _⟩ hl.1 rfl (Nat.le_of_ble_eq_true rfl) dX6_best_56 rfl) (fun v21 σ1 => ?_)
    refine q_iconst C dX6_best_59 rfl (by decide) (fun v22 => ?_)
    refine q_iload C dX6_best_60 (lv_at hl 0 rfl) ?_
    refine q_imul C dX6_best_62 (fun v23 => ?_)
    refine q_iadd C dX6_best_63 (fun v24 => ?_)
    refine q_istore C [(6, .int v24), (5, .int x20), (0, .ref (gad G k0)), (1, .int x16), (2, .int x17), (3, .int x18), (4, .int x19)] dX6_best_64 hl (by decide) rfl (fun ls hl => ?_)
    refine q_iload C dX6_best_66 (lv_at hl 6 rfl) ?_
    refine q_iconst C dX6_best_68 rfl (by decide) (fun v25 => ?_)
    refine q_icmp_eq C 78 dX6_best_69 (by decide) ?_ ?_
    · refine q_iload C dX6_best_78 (lv_at hl 0 rfl) ?_
      refine q_istore_n C [(3, .int v24), (6, .int v24), (5, .int x20), (0, .ref (gad G k0)), (1, .int x16), (2, .int x17), (4, .int x19)] dX6_best_80 rfl hl (by decide) rfl (fun ls hl => ?_)
      refine q_iload C dX6_best_81 (lv_at hl 6 rfl) ?_
      refine q_istore_n C [(2, .int x19), (3, .int v24), (6, .int v24), (5, .int x20), (0, .ref (gad G k0)), (1, .int x16), (4, .int x19)] dX6_best_83 rfl hl (by decide) rfl (fun ls hl => ?_)
      refine q_iinc (k := 6) C (fun v26 => [(4, .int v26), (2, .int x19), (3, .int v24), (6, .int v24), (5, .int x20), (0, .ref (gad G k0)), (1, .int x16)]) dX6_best_84 hl rfl (by decide) (by decide) (fun _ => rfl) (fun v26 ls hl => ?_)
      refine q_goto C 28 dX6_best_87 (by decide) ?_
      exact hK28 x16 x19 v24 v26 σ1 ls (lv_sub hl [5, 6, 1, 2, 0] rfl)
    · refine q_iload C dX6_best_72 (lv_at hl 0 rfl) ?_
      refine q_iload_n C dX6_best_74 rfl (lv_at hl 5 rfl) ?_
      refine q_icmp_ge C 84 dX6_best_75 (by decide) ?_ ?_
      · refine q_iinc (k := 6) C (fun v27 => [(4, .int v27), (6, .int v24), (5, .int x20), (0, .ref (gad G k0)), (1, .int x16), (2, .int x17), (3, .int x18)]) dX6_best_84 hl rfl (by decide) (by decide) (fun _ => rfl) (fun v27 ls hl => ?_)
        refine q_goto C 28 dX6_best_87 (by decide) ?_
        exact hK28 x16 x17 x18 v27 σ1 ls (lv_sub hl [3, 4, 5, 6, 0] rfl)
      · refine q_iload C dX6_best_78 (lv_at hl 0 rfl) ?_
        refine q_istore_n C [(3, .int v24), (6, .int v24), (5, .int x20), (0, .ref (gad G k0)), (1, .int x16), (2, .int x17), (4, .int x19)] dX6_best_80 rfl hl (by decide) rfl (fun ls hl => ?_)
        refine q_iload C dX6_best_81 (lv_at hl 6 rfl) ?_
        refine q_istore_n C [(2, .int x19), (3, .int v24), (6, .int v24), (5, .int x20), (0, .ref (gad G k0)), (1, .int x16), (4, .int x19)] dX6_best_83 rfl hl (by decide) rfl (fun ls hl => ?_)
        refine q_iinc (k := 6) C (fun v28 => [(4, .int v28), (2, .int x19), (3, .int v24), (6, .int v24), (5, .int x20), (0, .ref (gad G k0)), (1, .int x16)]) dX6_best_84 hl rfl (by decide) (by decide) (fun _ => rfl) (fun v28 ls hl => ?_)
        refine q_goto C 28 dX6_best_87 (by decide) ?_
        exact hK28 x16 x19 v24 v28 σ1 ls (lv_sub hl [5, 6, 1, 2, 0] rfl)
  have B28 : ∀ (n : Nat) (x6 : Int32) (x7 : Int32) (x8 : Int32) (x9 : Int32) (σ : St) (ls : Array Slot), lv_has ls 7 [(0, .ref (gad G k0)), (1, .int x6), (2, .int x7), (3, .int x8), (4, .int x9)] → Sim G (AG G) 0 0 p l e { frames := 3, cells := 0, slots := 0, locals := 91 } s m args below meth c (fun r : Int × St => MQ below (QC G (vI r.1) (r.2)) args s 0 0 (AG G)) σ (f_X6_best_L28 F k0   n x6.toInt x7.toInt x8.toInt x9.toInt σ) (F0 m 28 ls []) := by
    intro n
    induction n with
    | zero =>
      intro x6 x7 x8 x9 σ ls hl
      exact sim_none
    | succ n ih =>
      intro x6 x7 x8 x9 σ ls hl
      rw [f_X6_best_L28]
      refine q_iload C dX6_best_28 (lv_at hl 4 rfl) ?_
      refine q_bipush C dX6_best_30 rfl (by decide) (fun v10 => ?_)
      refine q_icmp_gt C 90 dX6_best_32 (by decide) ?_ ?_
      · refine q_iload_n C dX6_best_90 rfl (lv_at hl 2 rfl) ?_
        exact q_iretE C hr hlo dX6_best_91
      · refine q_iload_n C dX6_best_35 rfl (lv_at hl 1 rfl) ?_
        refine q_if_ne C 43 dX6_best_36 (by decide) ?_ ?_
        · refine q_iload_n C dX6_best_43 rfl (lv_at hl 1 rfl) ?_
          refine q_iconst C dX6_best_44 rfl (by decide) (fun v11 => ?_)
          refine q_isub C dX6_best_45 (fun v12 => ?_)
          refine q_iload C dX6_best_46 (lv_at hl 4 rfl) ?_
          refine q_irem C dX6_best_48 (fun v13 => ?_)
          refine q_iconst C dX6_best_49 rfl (by decide) (fun v14 => ?_)
          refine q_iadd C dX6_best_50 (fun v15 => ?_)
          exact B51 (f_X6_best_L28 F k0 n) ih x6 x7 x8 x9 v15 σ ls (lv_sub hl [0, 1, 2, 3, 4] rfl)
        · refine q_iconst C dX6_best_39 rfl (by decide) (fun v29 => ?_)
          refine q_goto C 51 dX6_best_40 (by decide) ?_
          exact B51 (f_X6_best_L28 F k0 n) ih x6 x7 x8 x9 v29 σ ls (lv_sub hl [0, 1, 2, 3, 4] rfl)
  refine q_aload_n C dX6_best_0 rfl (lv_at hl 0 rfl) ?_
  refine g_6_1 C hk0 kf_X6_19 dX6_best_1 ?_
  refine q_c1i C (fun r h => cr_V (As := []) (rest := []) C (m_X4_exists l G F (k0 + 4) σ r h) cb_X4_exists (yk_6_1 hk0) (by decide) rfl (cf_4 (yk_6_1 hk0) _) rfl kl_X6_245 ⟨Nat.le_of_ble_eq_true rfl, Nat.le_of_ble_eq_true rfl⟩ ⟨Nat.zero_le _, Nat.zero_le _⟩ hl.1 rfl (Nat.le_of_ble_eq_true rfl) dX6_best_4 rfl) (fun v1 => ?_)
  refine q_if_ne C 13 dX6_best_7 (by decide) ?_ ?_
  · refine q_aload_n C dX6_best_13 rfl (lv_at hl 0 rfl) ?_
    refine g_6_1 C hk0 kf_X6_19 dX6_best_14 ?_
    refine q_c1i C (fun r h => cr_V (As := []) (rest := []) C (m_X4_commands l G F (k0 + 4) σ r h) cb_X4_commands (yk_6_1 hk0) (by decide) rfl (cf_4 (yk_6_1 hk0) _) rfl kl_X6_262 ⟨Nat.le_of_ble_eq_true rfl, Nat.le_of_ble_eq_true rfl⟩ ⟨Nat.zero_le _, Nat.zero_le _⟩ hl.1 rfl (Nat.le_of_ble_eq_true rfl) dX6_best_17 rfl) (fun v2 => ?_)
    refine q_istore_n C [(1, .int v2), (0, .ref (gad G k0))] dX6_best_20 rfl hl (by decide) rfl (fun ls hl => ?_)
    refine q_iconst C dX6_best_21 rfl (by decide) (fun v3 => ?_)
    refine q_istore_n C [(2, .int v3), (1, .int v2), (0, .ref (gad G k0))] dX6_best_22 rfl hl (by decide) rfl (fun ls hl => ?_)
    refine q_iconst C dX6_best_23 rfl (by decide) (fun v4 => ?_)
    refine q_istore_n C [(3, .int v4), (2, .int v3), (1, .int v2), (0, .ref (gad G k0))] dX6_best_24 rfl hl (by decide) rfl (fun ls hl => ?_)
    refine q_iconst C dX6_best_25 rfl (by decide) (fun v5 => ?_)
    refine q_istore C [(4, .int v5), (3, .int v4), (2, .int v3), (1, .int v2), (0, .ref (gad G k0))] dX6_best_26 hl (by decide) rfl (fun ls hl => ?_)
    exact B28 F v2 v3 v4 v5 σ ls (lv_sub hl [4, 3, 2, 1, 0] rfl)
  · refine q_bipush C dX6_best_10 rfl (by decide) (fun v30 => ?_)
    exact q_iretE C hr hlo dX6_best_12
def f_X6_blame_L44 (F : Nat) (k0 : Nat)   : Nat → Int → Int → Int → St → Option (Int × St)
  | 0, _, _, _, _ => none
  | n + 1, x7, x8, x9, σ =>
    z_gt (σ (k0 + 4) 3) fun v10 =>
    if v10 ≤ x9 then (
      some (x8, σ))
    else (
      z_c1 (f_X4_size F (k0 + 4) σ) fun v11 =>
      z_gt 1 fun v12 =>
      z_gt (z_lshl v12 x9) fun v13 =>
      z_c1 (f_X0_play F (k0 + 208) (k0 + 4) v11 v13 σ) fun σ2 =>
      z_c1 (f_X0_zeros F (k0 + 208) σ2) fun v14 =>
      if v14 ≤ x7 then (
        z_ck (x9 + 1) fun v15 =>
        f_X6_blame_L44 F k0 n x7 x8 v15 σ2)
      else (
        z_c1 (f_X0_zeros F (k0 + 208) σ2) fun v16 =>
        z_ck (x9 + 1) fun v17 =>
        f_X6_blame_L44 F k0 n v16 x9 v17 σ2))

def f_X6_blame (F : Nat) (k0 : Nat) (σ : St) : Option (Int × St) :=
  z_ob 6 k0 <| 
  z_c1 (f_X4_exists F (k0 + 4) σ) fun v1 =>
  if ¬ v1 = 0 then (
    z_c1 (f_X4_size F (k0 + 4) σ) fun v2 =>
    z_gt 0 fun v3 =>
    z_c1 (f_X0_play F (k0 + 208) (k0 + 4) v2 v3 σ) fun σ1 =>
    z_c1 (f_X0_zeros F (k0 + 208) σ1) fun v4 =>
    z_gt (-1) fun v5 =>
    z_gt 0 fun v6 =>
    f_X6_blame_L44 F k0 F v4 v5 v6 σ1)
  else (
    z_gt (-2) fun v18 =>
    some (v18, σ))
theorem cb_X6_blame : CB yX6_blame cX6_blame 4 (some .int) 0 := ⟨ki_X6_blame, kq_X6_blame, kn_X6, kc_X6_blame, by decide +kernel, by decide +kernel, by decide +kernel⟩
set_option maxRecDepth 20000 in
set_option maxHeartbeats 4000000 in
theorem m_X6_blame (l : Launch) (G : GG) (F : Nat) (k0 : Nat) (σ : St) : ∀ r, f_X6_blame F k0 σ = some r → MC G l yX6_blame cX6_blame 4 (some .int) { frames := 3, cells := 0, slots := 0, locals := 91 } [.ref (gad G k0)] σ (vI r.1) r.2 := by
  refine MC_of (own := RX6) (fun r : Int × St => vI r.1) (fun r : Int × St => r.2) (by decide +kernel) rfl (Nat.le_of_ble_eq_true rfl) ?_
  intro p e s m args below meth c C hr hlo ls hl
  have hl : lv_has ls 4 [(0, .ref (gad G k0))] := hl
  unfold f_X6_blame
  refine q_ob (fun hk0 => ?_)
  have B44 : ∀ (n : Nat) (x7 : Int32) (x8 : Int32) (x9 : Int32) (σ : St) (ls : Array Slot), lv_has ls 4 [(0, .ref (gad G k0)), (1, .int x7), (2, .int x8), (3, .int x9)] → Sim G (AG G) 0 0 p l e { frames := 3, cells := 0, slots := 0, locals := 91 } s m args below meth c (fun r : Int × St => MQ below (QC G (vI r.1) (r.2)) args s 0 0 (AG G)) σ (f_X6_blame_L44 F k0   n x7.toInt x8.toInt x9.toInt σ) (F0 m 44 ls []) := by
    intro n
    induction n with
    | zero =>
      intro x7 x8 x9 σ ls hl
      exact sim_none
    | succ n ih =>
      intro x7 x8 x9 σ ls hl
      rw [f_X6_blame_L44]
      refine q_iload_n C dX6_blame_44 rfl (lv_at hl 3 rfl) ?_
      refine q_aload_n C dX6_blame_45 rfl (lv_at hl 0 rfl) ?_
      refine g_6_1 C hk0 kf_X6_19 dX6_blame_46 ?_
      refine g_4_3 C (yk_6_1 hk0) kf_X6_268 dX6_blame_49 (fun v10 => ?_)
      refine q_icmp_ge C 103 dX6_blame_52 (by decide) ?_ ?_
      · refine q_iload_n C dX6_blame_103 rfl (lv_at hl 2 rfl) ?_
        exact q_iretE C hr hlo dX6_blame_104
      · refine q_aload_n C dX6_blame_55 rfl (lv_at hl 0 rfl) ?_
        refine g_6_7 C hk0 kf_X6_49 dX6_blame_56 ?_
        refine q_aload_n C dX6_blame_59 rfl (lv_at hl 0 rfl) ?_
        refine g_6_1 C hk0 kf_X6_19 dX6_blame_60 ?_
        refine q_aload_n C dX6_blame_63 rfl (lv_at hl 0 rfl) ?_
        refine g_6_1 C hk0 kf_X6_19 dX6_blame_64 ?_
        refine q_c1i C (fun r h => cr_V (As := []) (rest := [.ref (gad G (k0 + 4)), .ref (gad G (k0 + 208))]) C (m_X4_size l G F (k0 + 4) σ r h) cb_X4_size (yk_6_1 hk0) (by decide) rfl (cf_4 (yk_6_1 hk0) _) rfl kl_X6_249 ⟨Nat.le_of_ble_eq_true rfl, Nat.le_of_ble_eq_true rfl⟩ ⟨Nat.zero_le _, Nat.zero_le _⟩ hl.1 rfl (Nat.le_of_ble_eq_true rfl) dX6_blame_67 rfl) (fun v11 => ?_)
        refine q_lconst C dX6_blame_70 rfl (by decide) (fun v12 => ?_)
        refine q_iload_n C dX6_blame_71 rfl (lv_at hl 3 rfl) ?_
        refine q_lshl C dX6_blame_72 (fun v13 => ?_)
        refine q_cv C (fun r h => cr_V (As := [.ref (gad G (k0 + 4)), .int v11, .long v13]) (rest := []) C (m_X0_play l G F (k0 + 208) (k0 + 4) v11 v13 σ r h) cb_X0_play (yk_6_7 hk0) (by decide) rfl (cf_0 (yk_6_7 hk0) _) rfl kl_X6_251 ⟨Nat.le_of_ble_eq_true rfl, Nat.le_of_ble_eq_true rfl⟩ ⟨Nat.zero_le _, Nat.zero_le _⟩ hl.1 rfl (Nat.le_of_ble_eq_true rfl) dX6_blame_73 rfl) (fun σ2 => ?_)
        refine q_aload_n C dX6_blame_76 rfl (lv_at hl 0 rfl) ?_
        refine g_6_7 C hk0 kf_X6_49 dX6_blame_77 ?_
        refine q_c1i C (fun r h => cr_V (As := []) (rest := []) C (m_X0_zeros l G F (k0 + 208) σ2 r h) cb_X0_zeros (yk_6_7 hk0) (by decide) rfl (cf_0 (yk_6_7 hk0) _) rfl kl_X6_265 ⟨Nat.le_of_ble_eq_true rfl, Nat.le_of_ble_eq_true rfl⟩ ⟨Nat.zero_le _, Nat.zero_le _⟩ hl.1 rfl (Nat.le_of_ble_eq_true rfl) dX6_blame_80 rfl) (fun v14 => ?_)
        refine q_iload_n C dX6_blame_83 rfl (lv_at hl 1 rfl) ?_
        refine q_icmp_le C 97 dX6_blame_84 (by decide) ?_ ?_
        · refine q_iinc (k := 3) C (fun v15 => [(3, .int v15), (0, .ref (gad G k0)), (1, .int x7), (2, .int x8)]) dX6_blame_97 hl rfl (by decide) (by decide) (fun _ => rfl) (fun v15 ls hl => ?_)
          refine q_goto C 44 dX6_blame_100 (by decide) ?_
          exact ih x7 x8 v15 σ2 ls (lv_sub hl [1, 2, 3, 0] rfl)
        · refine q_aload_n C dX6_blame_87 rfl (lv_at hl 0 rfl) ?_
          refine g_6_7 C hk0 kf_X6_49 dX6_blame_88 ?_
          refine q_c1i C (fun r h => cr_V (As := []) (rest := []) C (m_X0_zeros l G F (k0 + 208) σ2 r h) cb_X0_zeros (yk_6_7 hk0) (by decide) rfl (cf_0 (yk_6_7 hk0) _) rfl kl_X6_265 ⟨Nat.le_of_ble_eq_true rfl, Nat.le_of_ble_eq_true rfl⟩ ⟨Nat.zero_le _, Nat.zero_le _⟩ hl.1 rfl (Nat.le_of_ble_eq_true rfl) dX6_blame_91 rfl) (fun v16 => ?_)
          refine q_istore_n C [(1, .int v16), (0, .ref (gad G k0)), (2, .int x8), (3, .int x9)] dX6_blame_94 rfl hl (by decide) rfl (fun ls hl => ?_)
          refine q_iload_n C dX6_blame_95 rfl (lv_at hl 3 rfl) ?_
          refine q_istore_n C [(2, .int x9), (1, .int v16), (0, .ref (gad G k0)), (3, .int x9)] dX6_blame_96 rfl hl (by decide) rfl (fun ls hl => ?_)
          refine q_iinc (k := 3) C (fun v17 => [(3, .int v17), (2, .int x9), (1, .int v16), (0, .ref (gad G k0))]) dX6_blame_97 hl rfl (by decide) (by decide) (fun _ => rfl) (fun v17 ls hl => ?_)
          refine q_goto C 44 dX6_blame_100 (by decide) ?_
          exact ih v16 x9 v17 σ2 ls (lv_sub hl [3, 2, 1, 0] rfl)
  refine q_aload_n C dX6_blame_0 rfl (lv_at hl 0 rfl) ?_
  refine g_6_1 C hk0 kf_X6_19 dX6_blame_1 ?_
  refine q_c1i C (fun r h => cr_V (As := []) (rest := []) C (m_X4_exists l G F (k0 + 4) σ r h) cb_X4_exists (yk_6_1 hk0) (by decide) rfl (cf_4 (yk_6_1 hk0) _) rfl kl_X6_245 ⟨Nat.le_of_ble_eq_true rfl, Nat.le_of_ble_eq_true rfl⟩ ⟨Nat.zero_le _, Nat.zero_le _⟩ hl.1 rfl (Nat.le_of_ble_eq_true rfl) dX6_blame_4 rfl) (fun v1 => ?_)
  refine q_if_ne C 13 dX6_blame_7 (by decide) ?_ ?_
  · refine q_aload_n C dX6_blame_13 rfl (lv_at hl 0 rfl) ?_
    refine g_6_7 C hk0 kf_X6_49 dX6_blame_14 ?_
    refine q_aload_n C dX6_blame_17 rfl (lv_at hl 0 rfl) ?_
    refine g_6_1 C hk0 kf_X6_19 dX6_blame_18 ?_
    refine q_aload_n C dX6_blame_21 rfl (lv_at hl 0 rfl) ?_
    refine g_6_1 C hk0 kf_X6_19 dX6_blame_22 ?_
    refine q_c1i C (fun r h => cr_V (As := []) (rest := [.ref (gad G (k0 + 4)), .ref (gad G (k0 + 208))]) C (m_X4_size l G F (k0 + 4) σ r h) cb_X4_size (yk_6_1 hk0) (by decide) rfl (cf_4 (yk_6_1 hk0) _) rfl kl_X6_249 ⟨Nat.le_of_ble_eq_true rfl, Nat.le_of_ble_eq_true rfl⟩ ⟨Nat.zero_le _, Nat.zero_le _⟩ hl.1 rfl (Nat.le_of_ble_eq_true rfl) dX6_blame_25 rfl) (fun v2 => ?_)
    refine q_lconst C dX6_blame_28 rfl (by decide) (fun v3 => ?_)
    refine q_cv C (fun r h => cr_V (As := [.ref (gad G (k0 + 4)), .int v2, .long v3]) (rest := []) C (m_X0_play l G F (k0 + 208) (k0 + 4) v2 v3 σ r h) cb_X0_play (yk_6_7 hk0) (by decide) rfl (cf_0 (yk_6_7 hk0) _) rfl kl_X6_251 ⟨Nat.le_of_ble_eq_true rfl, Nat.le_of_ble_eq_true rfl⟩ ⟨Nat.zero_le _, Nat.zero_le _⟩ hl.1 rfl (Nat.le_of_ble_eq_true rfl) dX6_blame_29 rfl) (fun σ1 => ?_)
    refine q_aload_n C dX6_blame_32 rfl (lv_at hl 0 rfl) ?_
    refine g_6_7 C hk0 kf_X6_49 dX6_blame_33 ?_
    refine q_c1i C (fun r h => cr_V (As := []) (rest := []) C (m_X0_zeros l G F (k0 + 208) σ1 r h) cb_X0_zeros (yk_6_7 hk0) (by decide) rfl (cf_0 (yk_6_7 hk0) _) rfl kl_X6_265 ⟨Nat.le_of_ble_eq_true rfl, Nat.le_of_ble_eq_true rfl⟩ ⟨Nat.zero_le _, Nat.zero_le _⟩ hl.1 rfl (Nat.le_of_ble_eq_true rfl) dX6_blame_36 rfl) (fun v4 => ?_)
    refine q_istore_n C [(1, .int v4), (0, .ref (gad G k0))] dX6_blame_39 rfl hl (by decide) rfl (fun ls hl => ?_)
    refine q_iconst C dX6_blame_40 rfl (by decide) (fun v5 => ?_)
    refine q_istore_n C [(2, .int v5), (1, .int v4), (0, .ref (gad G k0))] dX6_blame_41 rfl hl (by decide) rfl (fun ls hl => ?_)
    refine q_iconst C dX6_blame_42 rfl (by decide) (fun v6 => ?_)
    refine q_istore_n C [(3, .int v6), (2, .int v5), (1, .int v4), (0, .ref (gad G k0))] dX6_blame_43 rfl hl (by decide) rfl (fun ls hl => ?_)
    exact B44 F v4 v5 v6 σ1 ls (lv_sub hl [3, 2, 1, 0] rfl)
  · refine q_bipush C dX6_blame_10 rfl (by decide) (fun v18 => ?_)
    exact q_iretE C hr hlo dX6_blame_12
def f_X6_idle_L34 (F : Nat) (k0 : Nat)   : Nat → Int → St → Option (Int × St)
  | 0, _, _ => none
  | n + 1, x5, σ =>
    z_gt (σ (k0 + 4) 3) fun v6 =>
    if v6 ≤ x5 then (
      z_gt (-1) fun v7 =>
      some (v7, σ))
    else (
      z_c1 (f_X4_isCommand F (k0 + 4) x5 σ) fun v8 =>
      if v8 = 0 then (
        z_ck (x5 + 1) fun v9 =>
        f_X6_idle_L34 F k0 n v9 σ)
      else (
        z_c1 (f_X4_size F (k0 + 4) σ) fun v10 =>
        z_gt 1 fun v11 =>
        z_gt (z_lshl v11 x5) fun v12 =>
        z_c1 (f_X0_play F (k0 + 208) (k0 + 4) v10 v12 σ) fun σ2 =>
        z_c1 (f_X0_unlike F (k0 + 208) (k0 + 210) σ2) fun v13 =>
        if ¬ v13 = 0 then (
          z_ck (x5 + 1) fun v14 =>
          f_X6_idle_L34 F k0 n v14 σ2)
        else (
          some (x5, σ2))))

def f_X6_idle (F : Nat) (k0 : Nat) (σ : St) : Option (Int × St) :=
  z_ob 6 k0 <| 
  z_c1 (f_X4_exists F (k0 + 4) σ) fun v1 =>
  if ¬ v1 = 0 then (
    z_c1 (f_X4_size F (k0 + 4) σ) fun v2 =>
    z_gt 0 fun v3 =>
    z_c1 (f_X0_play F (k0 + 210) (k0 + 4) v2 v3 σ) fun σ1 =>
    z_gt 0 fun v4 =>
    f_X6_idle_L34 F k0 F v4 σ1)
  else (
    z_gt (-2) fun v15 =>
    some (v15, σ))
theorem cb_X6_idle : CB yX6_idle cX6_idle 2 (some .int) 0 := ⟨ki_X6_idle, kq_X6_idle, kn_X6, kc_X6_idle, by decide +kernel, by decide +kernel, by decide +kernel⟩
set_option maxRecDepth 20000 in
set_option maxHeartbeats 4000000 in
theorem m_X6_idle (l : Launch) (G : GG) (F : Nat) (k0 : Nat) (σ : St) : ∀ r, f_X6_idle F k0 σ = some r → MC G l yX6_idle cX6_idle 2 (some .int) { frames := 3, cells := 0, slots := 0, locals := 91 } [.ref (gad G k0)] σ (vI r.1) r.2 := by
  refine MC_of (own := RX6) (fun r : Int × St => vI r.1) (fun r : Int × St => r.2) (by decide +kernel) rfl (Nat.le_of_ble_eq_true rfl) ?_
  intro p e s m args below meth c C hr hlo ls hl
  have hl : lv_has ls 2 [(0, .ref (gad G k0))] := hl
  unfold f_X6_idle
  refine q_ob (fun hk0 => ?_)
  have B34 : ∀ (n : Nat) (x5 : Int32) (σ : St) (ls : Array Slot), lv_has ls 2 [(0, .ref (gad G k0)), (1, .int x5)] → Sim G (AG G) 0 0 p l e { frames := 3, cells := 0, slots := 0, locals := 91 } s m args below meth c (fun r : Int × St => MQ below (QC G (vI r.1) (r.2)) args s 0 0 (AG G)) σ (f_X6_idle_L34 F k0   n x5.toInt σ) (F0 m 34 ls []) := by
    intro n
    induction n with
    | zero =>
      intro x5 σ ls hl
      exact sim_none
    | succ n ih =>
      intro x5 σ ls hl
      rw [f_X6_idle_L34]
      refine q_iload_n C dX6_idle_34 rfl (lv_at hl 1 rfl) ?_
      refine q_aload_n C dX6_idle_35 rfl (lv_at hl 0 rfl) ?_
      refine g_6_1 C hk0 kf_X6_19 dX6_idle_36 ?_
      refine g_4_3 C (yk_6_1 hk0) kf_X6_268 dX6_idle_39 (fun v6 => ?_)
      refine q_icmp_ge C 99 dX6_idle_42 (by decide) ?_ ?_
      · refine q_iconst C dX6_idle_99 rfl (by decide) (fun v7 => ?_)
        exact q_iretE C hr hlo dX6_idle_100
      · refine q_aload_n C dX6_idle_45 rfl (lv_at hl 0 rfl) ?_
        refine g_6_1 C hk0 kf_X6_19 dX6_idle_46 ?_
        refine q_iload_n C dX6_idle_49 rfl (lv_at hl 1 rfl) ?_
        refine q_c1i C (fun r h => cr_V (As := [.int x5]) (rest := []) C (m_X4_isCommand l G F (k0 + 4) x5 σ r h) cb_X4_isCommand (yk_6_1 hk0) (by decide) rfl (cf_4 (yk_6_1 hk0) _) rfl kl_X6_220 ⟨Nat.le_of_ble_eq_true rfl, Nat.le_of_ble_eq_true rfl⟩ ⟨Nat.zero_le _, Nat.zero_le _⟩ hl.1 rfl (Nat.le_of_ble_eq_true rfl) dX6_idle_50 rfl) (fun v8 => ?_)
        refine q_if_eq C 93 dX6_idle_53 (by decide) ?_ ?_
        · refine q_iinc (k := 1) C (fun v9 => [(1, .int v9), (0, .ref (gad G k0))]) dX6_idle_93 hl rfl (by decide) (by decide) (fun _ => rfl) (fun v9 ls hl => ?_)
          refine q_goto C 34 dX6_idle_96 (by decide) ?_
          exact ih v9 σ ls (lv_sub hl [1, 0] rfl)
        · refine q_aload_n C dX6_idle_56 rfl (lv_at hl 0 rfl) ?_
          refine g_6_7 C hk0 kf_X6_49 dX6_idle_57 ?_
          refine q_aload_n C dX6_idle_60 rfl (lv_at hl 0 rfl) ?_
          refine g_6_1 C hk0 kf_X6_19 dX6_idle_61 ?_
          refine q_aload_n C dX6_idle_64 rfl (lv_at hl 0 rfl) ?_
          refine g_6_1 C hk0 kf_X6_19 dX6_idle_65 ?_
          refine q_c1i C (fun r h => cr_V (As := []) (rest := [.ref (gad G (k0 + 4)), .ref (gad G (k0 + 208))]) C (m_X4_size l G F (k0 + 4) σ r h) cb_X4_size (yk_6_1 hk0) (by decide) rfl (cf_4 (yk_6_1 hk0) _) rfl kl_X6_249 ⟨Nat.le_of_ble_eq_true rfl, Nat.le_of_ble_eq_true rfl⟩ ⟨Nat.zero_le _, Nat.zero_le _⟩ hl.1 rfl (Nat.le_of_ble_eq_true rfl) dX6_idle_68 rfl) (fun v10 => ?_)
          refine q_lconst C dX6_idle_71 rfl (by decide) (fun v11 => ?_)
          refine q_iload_n C dX6_idle_72 rfl (lv_at hl 1 rfl) ?_
          refine q_lshl C dX6_idle_73 (fun v12 => ?_)
          refine q_cv C (fun r h => cr_V (As := [.ref (gad G (k0 + 4)), .int v10, .long v12]) (rest := []) C (m_X0_play l G F (k0 + 208) (k0 + 4) v10 v12 σ r h) cb_X0_play (yk_6_7 hk0) (by decide) rfl (cf_0 (yk_6_7 hk0) _) rfl kl_X6_251 ⟨Nat.le_of_ble_eq_true rfl, Nat.le_of_ble_eq_true rfl⟩ ⟨Nat.zero_le _, Nat.zero_le _⟩ hl.1 rfl (Nat.le_of_ble_eq_true rfl) dX6_idle_74 rfl) (fun σ2 => ?_)
          refine q_aload_n C dX6_idle_77 rfl (lv_at hl 0 rfl) ?_
          refine g_6_7 C hk0 kf_X6_49 dX6_idle_78 ?_
          refine q_aload_n C dX6_idle_81 rfl (lv_at hl 0 rfl) ?_
          refine g_6_8 C hk0 kf_X6_53 dX6_idle_82 ?_
          refine q_c1i C (fun r h => cr_V (As := [.ref (gad G (k0 + 210))]) (rest := []) C (m_X0_unlike l G F (k0 + 208) (k0 + 210) σ2 r h) cb_X0_unlike (yk_6_7 hk0) (by decide) rfl (cf_0 (yk_6_7 hk0) _) rfl kl_X6_255 ⟨Nat.le_of_ble_eq_true rfl, Nat.le_of_ble_eq_true rfl⟩ ⟨Nat.zero_le _, Nat.zero_le _⟩ hl.1 rfl (Nat.le_of_ble_eq_true rfl) dX6_idle_85 rfl) (fun v13 => ?_)
          refine q_if_ne C 93 dX6_idle_88 (by decide) ?_ ?_
          · refine q_iinc (k := 1) C (fun v14 => [(1, .int v14), (0, .ref (gad G k0))]) dX6_idle_93 hl rfl (by decide) (by decide) (fun _ => rfl) (fun v14 ls hl => ?_)
            refine q_goto C 34 dX6_idle_96 (by decide) ?_
            exact ih v14 σ2 ls (lv_sub hl [1, 0] rfl)
          · refine q_iload_n C dX6_idle_91 rfl (lv_at hl 1 rfl) ?_
            exact q_iretE C hr hlo dX6_idle_92
  refine q_aload_n C dX6_idle_0 rfl (lv_at hl 0 rfl) ?_
  refine g_6_1 C hk0 kf_X6_19 dX6_idle_1 ?_
  refine q_c1i C (fun r h => cr_V (As := []) (rest := []) C (m_X4_exists l G F (k0 + 4) σ r h) cb_X4_exists (yk_6_1 hk0) (by decide) rfl (cf_4 (yk_6_1 hk0) _) rfl kl_X6_245 ⟨Nat.le_of_ble_eq_true rfl, Nat.le_of_ble_eq_true rfl⟩ ⟨Nat.zero_le _, Nat.zero_le _⟩ hl.1 rfl (Nat.le_of_ble_eq_true rfl) dX6_idle_4 rfl) (fun v1 => ?_)
  refine q_if_ne C 13 dX6_idle_7 (by decide) ?_ ?_
  · refine q_aload_n C dX6_idle_13 rfl (lv_at hl 0 rfl) ?_
    refine g_6_8 C hk0 kf_X6_53 dX6_idle_14 ?_
    refine q_aload_n C dX6_idle_17 rfl (lv_at hl 0 rfl) ?_
    refine g_6_1 C hk0 kf_X6_19 dX6_idle_18 ?_
    refine q_aload_n C dX6_idle_21 rfl (lv_at hl 0 rfl) ?_
    refine g_6_1 C hk0 kf_X6_19 dX6_idle_22 ?_
    refine q_c1i C (fun r h => cr_V (As := []) (rest := [.ref (gad G (k0 + 4)), .ref (gad G (k0 + 210))]) C (m_X4_size l G F (k0 + 4) σ r h) cb_X4_size (yk_6_1 hk0) (by decide) rfl (cf_4 (yk_6_1 hk0) _) rfl kl_X6_249 ⟨Nat.le_of_ble_eq_true rfl, Nat.le_of_ble_eq_true rfl⟩ ⟨Nat.zero_le _, Nat.zero_le _⟩ hl.1 rfl (Nat.le_of_ble_eq_true rfl) dX6_idle_25 rfl) (fun v2 => ?_)
    refine q_lconst C dX6_idle_28 rfl (by decide) (fun v3 => ?_)
    refine q_cv C (fun r h => cr_V (As := [.ref (gad G (k0 + 4)), .int v2, .long v3]) (rest := []) C (m_X0_play l G F (k0 + 210) (k0 + 4) v2 v3 σ r h) cb_X0_play (yk_6_8 hk0) (by decide) rfl (cf_0 (yk_6_8 hk0) _) rfl kl_X6_251 ⟨Nat.le_of_ble_eq_true rfl, Nat.le_of_ble_eq_true rfl⟩ ⟨Nat.zero_le _, Nat.zero_le _⟩ hl.1 rfl (Nat.le_of_ble_eq_true rfl) dX6_idle_29 rfl) (fun σ1 => ?_)
    refine q_iconst C dX6_idle_32 rfl (by decide) (fun v4 => ?_)
    refine q_istore_n C [(1, .int v4), (0, .ref (gad G k0))] dX6_idle_33 rfl hl (by decide) rfl (fun ls hl => ?_)
    exact B34 F v4 σ1 ls (lv_sub hl [1, 0] rfl)
  · refine q_bipush C dX6_idle_10 rfl (by decide) (fun v15 => ?_)
    exact q_iretE C hr hlo dX6_idle_12
def f_X6_hasSlot (F : Nat) (a1 : Int) (σ : St) : Option (Int) :=
  
  if a1 < 0 then (
    z_gt 0 fun v1 =>
    z_bo v1 <| some v1)
  else (
    z_gt 4 fun v2 =>
    if v2 ≤ a1 then (
      z_gt 0 fun v3 =>
      z_bo v3 <| some v3)
    else (
      z_gt 1 fun v4 =>
      z_bo v4 <| some v4))
theorem sb_X6_hasSlot : SB yX6_hasSlot cX6_hasSlot 1 (some .boolean) 1 := ⟨ks_X6_hasSlot, kn_X6, kc_X6_hasSlot, by decide +kernel, by decide +kernel, by decide +kernel⟩
set_option maxRecDepth 20000 in
set_option maxHeartbeats 4000000 in
theorem m_X6_hasSlot (l : Launch) (G : GG) (F : Nat) (a1 : Int32) (σ : St) : ∀ r, f_X6_hasSlot F a1.toInt σ = some r → MC G l yX6_hasSlot cX6_hasSlot 1 (some .boolean) { frames := 0, cells := 0, slots := 0, locals := 0 } [.int a1] σ (vI r) σ := by
  refine MC_of (own := RX6) (vI) (fun _ => σ) (by decide +kernel) rfl (Nat.le_of_ble_eq_true rfl) ?_
  intro p e s m args below meth c C hr hlo ls hl
  have hl : lv_has ls 1 [(0, .int a1)] := hl
  unfold f_X6_hasSlot
  refine q_iload_n C dX6_hasSlot_0 rfl (lv_at hl 0 rfl) ?_
  refine q_if_lt C 13 dX6_hasSlot_1 (by decide) ?_ ?_
  · refine q_iconst C dX6_hasSlot_13 rfl (by decide) (fun v1 => ?_)
    exact q_zret C hr hlo dX6_hasSlot_14
  · refine q_iload_n C dX6_hasSlot_4 rfl (lv_at hl 0 rfl) ?_
    refine q_iconst C dX6_hasSlot_5 rfl (by decide) (fun v2 => ?_)
    refine q_icmp_ge C 13 dX6_hasSlot_6 (by decide) ?_ ?_
    · refine q_iconst C dX6_hasSlot_13 rfl (by decide) (fun v3 => ?_)
      exact q_zret C hr hlo dX6_hasSlot_14
    · refine q_iconst C dX6_hasSlot_9 rfl (by decide) (fun v4 => ?_)
      refine q_goto C 14 dX6_hasSlot_10 (by decide) ?_
      exact q_zret C hr hlo dX6_hasSlot_14
def f_X6_isUpTo (F : Nat) (a1 : Int) (a2 : Int) (σ : St) : Option (Int) :=
  
  z_gt 0 fun v1 =>
  z_gt (z_cmp a1 v1) fun v2 =>
  if v2 < 0 then (
    z_gt 0 fun v3 =>
    z_bo v3 <| some v3)
  else (
    z_gt a2 fun v4 =>
    z_gt (z_cmp a1 v4) fun v5 =>
    if 0 < v5 then (
      z_gt 0 fun v6 =>
      z_bo v6 <| some v6)
    else (
      z_gt 1 fun v7 =>
      z_bo v7 <| some v7))
theorem sb_X6_isUpTo : SB yX6_isUpTo cX6_isUpTo 3 (some .boolean) 2 := ⟨ks_X6_isUpTo, kn_X6, kc_X6_isUpTo, by decide +kernel, by decide +kernel, by decide +kernel⟩
set_option maxRecDepth 20000 in
set_option maxHeartbeats 4000000 in
theorem m_X6_isUpTo (l : Launch) (G : GG) (F : Nat) (a1 : Int64) (a2 : Int32) (σ : St) : ∀ r, f_X6_isUpTo F a1.toInt a2.toInt σ = some r → MC G l yX6_isUpTo cX6_isUpTo 3 (some .boolean) { frames := 0, cells := 0, slots := 0, locals := 0 } [.long a1, .int a2] σ (vI r) σ := by
  refine MC_of (own := RX6) (vI) (fun _ => σ) (by decide +kernel) rfl (Nat.le_of_ble_eq_true rfl) ?_
  intro p e s m args below meth c C hr hlo ls hl
  have hl : lv_has ls 3 [(0, .long a1), (2, .int a2)] := hl
  unfold f_X6_isUpTo
  refine q_lload_n C dX6_isUpTo_0 rfl (lv_at hl 0 rfl) ?_
  refine q_lconst C dX6_isUpTo_1 rfl (by decide) (fun v1 => ?_)
  refine q_lcmp C dX6_isUpTo_2 (fun v2 => ?_)
  refine q_if_lt C 17 dX6_isUpTo_3 (by decide) ?_ ?_
  · refine q_iconst C dX6_isUpTo_17 rfl (by decide) (fun v3 => ?_)
    exact q_zret C hr hlo dX6_isUpTo_18
  · refine q_lload_n C dX6_isUpTo_6 rfl (lv_at hl 0 rfl) ?_
    refine q_iload_n C dX6_isUpTo_7 rfl (lv_at hl 1 rfl) ?_
    refine q_i2l C dX6_isUpTo_8 (fun v4 => ?_)
    refine q_lcmp C dX6_isUpTo_9 (fun v5 => ?_)
    refine q_if_gt C 17 dX6_isUpTo_10 (by decide) ?_ ?_
    · refine q_iconst C dX6_isUpTo_17 rfl (by decide) (fun v6 => ?_)
      exact q_zret C hr hlo dX6_isUpTo_18
    · refine q_iconst C dX6_isUpTo_13 rfl (by decide) (fun v7 => ?_)
      refine q_goto C 18 dX6_isUpTo_14 (by decide) ?_
      exact q_zret C hr hlo dX6_isUpTo_18
def f_X6_seenRefusal_J121 (F : Nat) (k0 : Nat) (a1 : Int) (K51 : Nat → Int → Option (Int)) (σ : St) (x19 : Nat) (x20 : Int)  : Option (Int) :=
  z_gt 0 fun v21 =>
  if ¬ v21 = 0 then (
    z_ck (x20 + 3) fun v22 =>
    K51 x19 v22)
  else (
    z_gt (-2) fun v23 =>
    some v23)

def f_X6_seenRefusal_L51 (F : Nat) (k0 : Nat) (a1 : Int)  (σ : St) : Nat → Nat → Int → Option (Int)
  | 0, _, _ => none
  | n + 1, x10, x11 =>
    z_gt 2 fun v12 =>
    z_ck (x11 + v12) fun v13 =>
    z_gt (σ x10 2) fun v14 =>
    if v14 ≤ v13 then (
      z_gt 0 fun v15 =>
      some v15)
    else (
      z_c1 (f_X5_numberAt F x10 x11 σ) fun v16 =>
      z_c1 (f_X4_size F (k0 + 4) σ) fun v17 =>
      z_c1 (f_X6_isUpTo F v16 v17 σ) fun v18 =>
      if v18 = 0 then (
        f_X6_seenRefusal_J121 F k0 a1 (f_X6_seenRefusal_L51 F k0 a1 σ n) σ x10 x11)
      else (
        z_gt 1 fun v24 =>
        z_ck (x11 + v24) fun v25 =>
        z_c1 (f_X5_numberAt F x10 v25 σ) fun v26 =>
        z_gt (σ (k0 + 4) 0) fun v27 =>
        z_gt 1 fun v28 =>
        z_ck (v27 - v28) fun v29 =>
        z_c1 (f_X6_isUpTo F v26 v29 σ) fun v30 =>
        if v30 = 0 then (
          f_X6_seenRefusal_J121 F k0 a1 (f_X6_seenRefusal_L51 F k0 a1 σ n) σ x10 x11)
        else (
          z_gt 2 fun v31 =>
          z_ck (x11 + v31) fun v32 =>
          z_c1 (f_X5_numberAt F x10 v32 σ) fun v33 =>
          z_gt 255 fun v34 =>
          z_c1 (f_X6_isUpTo F v33 v34 σ) fun v35 =>
          if v35 = 0 then (
            f_X6_seenRefusal_J121 F k0 a1 (f_X6_seenRefusal_L51 F k0 a1 σ n) σ x10 x11)
          else (
            z_gt 1 fun v36 =>
            if ¬ v36 = 0 then (
              z_ck (x11 + 3) fun v37 =>
              f_X6_seenRefusal_L51 F k0 a1 σ n x10 v37)
            else (
              z_gt (-2) fun v38 =>
              some v38)))))

def f_X6_seenRefusal (F : Nat) (k0 : Nat) (a1 : Int) (σ : St) : Option (Int) :=
  z_ob 6 k0 <| 
  z_c1 (f_X6_hasSlot F a1 σ) fun v1 =>
  if v1 = 0 then (
    z_gt (-2) fun v2 =>
    some v2)
  else (
    z_c1 (f_X4_exists F (k0 + 4) σ) fun v3 =>
    if ¬ v3 = 0 then (
      z_ix a1 4 <|
      z_gt (σ (k0 + 11 + 212 + 2 * a1.toNat) 0) fun v5 =>
      if ¬ v5 = 0 then (
        z_gt (σ (k0 + 11 + 212 + 2 * a1.toNat) 2) fun v6 =>
        z_gt 3 fun v7 =>
        z_nz v7 <| z_gt (v6.tmod v7) fun v8 =>
        if v8 = 0 then (
          z_gt 0 fun v9 =>
          f_X6_seenRefusal_L51 F k0 a1 σ F (k0 + 11 + 212 + 2 * a1.toNat) v9)
        else (
          z_gt (-2) fun v39 =>
          some v39))
      else (
        z_gt (-6) fun v40 =>
        some v40))
    else (
      z_gt (-2) fun v41 =>
      some v41))
theorem cb_X6_seenRefusal : CB yX6_seenRefusal cX6_seenRefusal 5 (some .int) 1 := ⟨ki_X6_seenRefusal, kq_X6_seenRefusal, kn_X6, kc_X6_seenRefusal, by decide +kernel, by decide +kernel, by decide +kernel⟩
set_option maxRecDepth 20000 in
set_option maxHeartbeats 4000000 in
theorem m_X6_seenRefusal (l : Launch) (G : GG) (F : Nat) (k0 : Nat) (a1 : Int32) (σ : St) : ∀ r, f_X6_seenRefusal F k0 a1.toInt σ = some r → MC G l yX6_seenRefusal cX6_seenRefusal 5 (some .int) { frames := 1, cells := 0, slots := 0, locals := 22 } [.ref (gad G k0), .int a1] σ (vI r) σ := by
  refine MC_of (own := RX6) (vI) (fun _ => σ) (by decide +kernel) rfl (Nat.le_of_ble_eq_true rfl) ?_
  intro p e s m args below meth c C hr hlo ls hl
  have hl : lv_has ls 5 [(0, .ref (gad G k0)), (1, .int a1)] := hl
  unfold f_X6_seenRefusal
  refine q_ob (fun hk0 => ?_)
  have B121 : ∀ (K51 : Nat → Int → Option (Int)) (hK51 : ∀ (y0 : Nat) (y1 : Int32)  (ls : Array Slot), lv_has ls 5 [(0, .ref (gad G k0)), (2, .ref (gad G y0)), (3, .int y1)] → kdX y0 = 5 → Sim G (AG G) 0 0 p l e { frames := 1, cells := 0, slots := 0, locals := 22 } s m args below meth c (fun r : Int => MQ below (QC G (vI r) (σ)) args s 0 0 (AG G)) σ (K51 y0 y1.toInt) (F0 m 51 ls [])), ∀  (x19 : Nat) (x20 : Int32) (ls : Array Slot), lv_has ls 5 [(0, .ref (gad G k0)), (2, .ref (gad G x19)), (3, .int x20)] → kdX x19 = 5 → Sim G (AG G) 0 0 p l e { frames := 1, cells := 0, slots := 0, locals := 22 } s m args below meth c (fun r : Int => MQ below (QC G (vI r) (σ)) args s 0 0 (AG G)) σ (f_X6_seenRefusal_J121 F k0 a1.toInt K51 σ  x19 x20.toInt) (F0 m 121 ls []) := by
    intro K51 hK51
    intro x19 x20 ls hl hx19
    unfold f_X6_seenRefusal_J121
    refine q_iconst C dX6_seenRefusal_121 rfl (by decide) (fun v21 => ?_)
    refine q_istore C [(4, .int v21), (0, .ref (gad G k0)), (2, .ref (gad G x19)), (3, .int x20)] dX6_seenRefusal_122 hl (by decide) rfl (fun ls hl => ?_)
    refine q_iload C dX6_seenRefusal_124 (lv_at hl 0 rfl) ?_
    refine q_if_ne C 132 dX6_seenRefusal_126 (by decide) ?_ ?_
    · refine q_iinc (k := 3) C (fun v22 => [(3, .int v22), (4, .int v21), (0, .ref (gad G k0)), (2, .ref (gad G x19))]) dX6_seenRefusal_132 hl rfl (by decide) (by decide) (fun _ => rfl) (fun v22 ls hl => ?_)
      refine q_goto C 51 dX6_seenRefusal_135 (by decide) ?_
      exact hK51 x19 v22 ls (lv_sub hl [2, 3, 0] rfl) hx19
    · refine q_bipush C dX6_seenRefusal_129 rfl (by decide) (fun v23 => ?_)
      exact q_iret C hr hlo dX6_seenRefusal_131
  have B51 : ∀ (n : Nat) (x10 : Nat) (x11 : Int32) (ls : Array Slot), lv_has ls 5 [(0, .ref (gad G k0)), (2, .ref (gad G x10)), (3, .int x11)] → kdX x10 = 5 → Sim G (AG G) 0 0 p l e { frames := 1, cells := 0, slots := 0, locals := 22 } s m args below meth c (fun r : Int => MQ below (QC G (vI r) (σ)) args s 0 0 (AG G)) σ (f_X6_seenRefusal_L51 F k0 a1.toInt  σ n x10 x11.toInt) (F0 m 51 ls []) := by
    intro n
    induction n with
    | zero =>
      intro x10 x11 ls hl hx10
      exact sim_none
    | succ n ih =>
      intro x10 x11 ls hl hx10
      rw [f_X6_seenRefusal_L51]
      refine q_iload_n C dX6_seenRefusal_51 rfl (lv_at hl 2 rfl) ?_
      refine q_iconst C dX6_seenRefusal_52 rfl (by decide) (fun v12 => ?_)
      refine q_iadd C dX6_seenRefusal_53 (fun v13 => ?_)
      refine q_aload_n C dX6_seenRefusal_54 rfl (lv_at hl 1 rfl) ?_
      refine g_5_2 C hx10 kf_X6_284 dX6_seenRefusal_55 (fun v14 => ?_)
      refine q_icmp_ge C 138 dX6_seenRefusal_58 (by decide) ?_ ?_
      · refine q_iconst C dX6_seenRefusal_138 rfl (by decide) (fun v15 => ?_)
        exact q_iret C hr hlo dX6_seenRefusal_139
      · refine q_aload_n C dX6_seenRefusal_61 rfl (lv_at hl 1 rfl) ?_
        refine q_iload_n C dX6_seenRefusal_62 rfl (lv_at hl 2 rfl) ?_
        refine q_c1l C (fun r h => cr_V (As := [.int x11]) (rest := []) C (m_X5_numberAt l G F x10 x11 σ r h) cb_X5_numberAt hx10 (by decide) rfl (cf_5 hx10 _) rfl kl_X6_285 ⟨Nat.le_of_ble_eq_true rfl, Nat.le_of_ble_eq_true rfl⟩ ⟨Nat.zero_le _, Nat.zero_le _⟩ hl.1 rfl (Nat.le_of_ble_eq_true rfl) dX6_seenRefusal_63 rfl) (fun v16 => ?_)
        refine q_aload_n C dX6_seenRefusal_66 rfl (lv_at hl 0 rfl) ?_
        refine g_6_1 C hk0 kf_X6_19 dX6_seenRefusal_67 ?_
        refine q_c1i C (fun r h => cr_V (As := []) (rest := [.long v16]) C (m_X4_size l G F (k0 + 4) σ r h) cb_X4_size (yk_6_1 hk0) (by decide) rfl (cf_4 (yk_6_1 hk0) _) rfl kl_X6_249 ⟨Nat.le_of_ble_eq_true rfl, Nat.le_of_ble_eq_true rfl⟩ ⟨Nat.zero_le _, Nat.zero_le _⟩ hl.1 rfl (Nat.le_of_ble_eq_true rfl) dX6_seenRefusal_70 rfl) (fun v17 => ?_)
        refine q_c1i C (fun r h => cr_S (As := [.long v16, .int v17]) (rest := []) C (m_X6_isUpTo l G F v16 v17 σ r h) sb_X6_isUpTo kl_X6_289 ⟨Nat.le_of_ble_eq_true rfl, Nat.le_of_ble_eq_true rfl⟩ ⟨Nat.zero_le _, Nat.zero_le _⟩ hl.1 rfl (Nat.le_of_ble_eq_true rfl) dX6_seenRefusal_73 rfl) (fun v18 => ?_)
        refine q_if_eq C 121 dX6_seenRefusal_76 (by decide) ?_ ?_
        · exact B121 (f_X6_seenRefusal_L51 F k0 a1.toInt σ n) ih x10 x11 ls (lv_sub hl [0, 1, 2] rfl) hx10
        · refine q_aload_n C dX6_seenRefusal_79 rfl (lv_at hl 1 rfl) ?_
          refine q_iload_n C dX6_seenRefusal_80 rfl (lv_at hl 2 rfl) ?_
          refine q_iconst C dX6_seenRefusal_81 rfl (by decide) (fun v24 => ?_)
          refine q_iadd C dX6_seenRefusal_82 (fun v25 => ?_)
          refine q_c1l C (fun r h => cr_V (As := [.int v25]) (rest := []) C (m_X5_numberAt l G F x10 v25 σ r h) cb_X5_numberAt hx10 (by decide) rfl (cf_5 hx10 _) rfl kl_X6_285 ⟨Nat.le_of_ble_eq_true rfl, Nat.le_of_ble_eq_true rfl⟩ ⟨Nat.zero_le _, Nat.zero_le _⟩ hl.1 rfl (Nat.le_of_ble_eq_true rfl) dX6_seenRefusal_83 rfl) (fun v26 => ?_)
          refine q_aload_n C dX6_seenRefusal_86 rfl (lv_at hl 0 rfl) ?_
          refine g_6_1 C hk0 kf_X6_19 dX6_seenRefusal_87 ?_
          refine g_4_0 C (yk_6_1 hk0) kf_X6_226 dX6_seenRefusal_90 (fun v27 => ?_)
          refine q_iconst C dX6_seenRefusal_93 rfl (by decide) (fun v28 => ?_)
          refine q_isub C dX6_seenRefusal_94 (fun v29 => ?_)
          refine q_c1i C (fun r h => cr_S (As := [.long v26, .int v29]) (rest := []) C (m_X6_isUpTo l G F v26 v29 σ r h) sb_X6_isUpTo kl_X6_289 ⟨Nat.le_of_ble_eq_true rfl, Nat.le_of_ble_eq_true rfl⟩ ⟨Nat.zero_le _, Nat.zero_le _⟩ hl.1 rfl (Nat.le_of_ble_eq_true rfl) dX6_seenRefusal_95 rfl) (fun v30 => ?_)
          refine q_if_eq C 121 dX6_seenRefusal_98 (by decide) ?_ ?_
          · exact B121 (f_X6_seenRefusal_L51 F k0 a1.toInt σ n) ih x10 x11 ls (lv_sub hl [0, 1, 2] rfl) hx10
          · refine q_aload_n C dX6_seenRefusal_101 rfl (lv_at hl 1 rfl) ?_
            refine q_iload_n C dX6_seenRefusal_102 rfl (lv_at hl 2 rfl) ?_
            refine q_iconst C dX6_seenRefusal_103 rfl (by decide) (fun v31 => ?_)
            refine q_iadd C dX6_seenRefusal_104 (fun v32 => ?_)
            refine q_c1l C (fun r h => cr_V (As := [.int v32]) (rest := []) C (m_X5_numberAt l G F x10 v32 σ r h) cb_X5_numberAt hx10 (by decide) rfl (cf_5 hx10 _) rfl kl_X6_285 ⟨Nat.le_of_ble_eq_true rfl, Nat.le_of_ble_eq_true rfl⟩ ⟨Nat.zero_le _, Nat.zero_le _⟩ hl.1 rfl (Nat.le_of_ble_eq_true rfl) dX6_seenRefusal_105 rfl) (fun v33 => ?_)
            refine q_sipush C dX6_seenRefusal_108 rfl (by decide) (fun v34 => ?_)
            refine q_c1i C (fun r h => cr_S (As := [.long v33, .int v34]) (rest := []) C (m_X6_isUpTo l G F v33 v34 σ r h) sb_X6_isUpTo kl_X6_289 ⟨Nat.le_of_ble_eq_true rfl, Nat.le_of_ble_eq_true rfl⟩ ⟨Nat.zero_le _, Nat.zero_le _⟩ hl.1 rfl (Nat.le_of_ble_eq_true rfl) dX6_seenRefusal_111 rfl) (fun v35 => ?_)
            refine q_if_eq C 121 dX6_seenRefusal_114 (by decide) ?_ ?_
            · exact B121 (f_X6_seenRefusal_L51 F k0 a1.toInt σ n) ih x10 x11 ls (lv_sub hl [0, 1, 2] rfl) hx10
            · refine q_iconst C dX6_seenRefusal_117 rfl (by decide) (fun v36 => ?_)
              refine q_goto C 122 dX6_seenRefusal_118 (by decide) ?_
              refine q_istore C [(4, .int v36), (0, .ref (gad G k0)), (2, .ref (gad G x10)), (3, .int x11)] dX6_seenRefusal_122 hl (by decide) rfl (fun ls hl => ?_)
              refine q_iload C dX6_seenRefusal_124 (lv_at hl 0 rfl) ?_
              refine q_if_ne C 132 dX6_seenRefusal_126 (by decide) ?_ ?_
              · refine q_iinc (k := 3) C (fun v37 => [(3, .int v37), (4, .int v36), (0, .ref (gad G k0)), (2, .ref (gad G x10))]) dX6_seenRefusal_132 hl rfl (by decide) (by decide) (fun _ => rfl) (fun v37 ls hl => ?_)
                refine q_goto C 51 dX6_seenRefusal_135 (by decide) ?_
                exact ih x10 v37 ls (lv_sub hl [2, 3, 0] rfl) hx10
              · refine q_bipush C dX6_seenRefusal_129 rfl (by decide) (fun v38 => ?_)
                exact q_iret C hr hlo dX6_seenRefusal_131
  refine q_iload_n C dX6_seenRefusal_0 rfl (lv_at hl 1 rfl) ?_
  refine q_c1i C (fun r h => cr_S (As := [.int a1]) (rest := []) C (m_X6_hasSlot l G F a1 σ r h) sb_X6_hasSlot kl_X6_278 ⟨Nat.le_of_ble_eq_true rfl, Nat.le_of_ble_eq_true rfl⟩ ⟨Nat.zero_le _, Nat.zero_le _⟩ hl.1 rfl (Nat.le_of_ble_eq_true rfl) dX6_seenRefusal_1 rfl) (fun v1 => ?_)
  refine q_if_eq C 17 dX6_seenRefusal_4 (by decide) ?_ ?_
  · refine q_bipush C dX6_seenRefusal_17 rfl (by decide) (fun v2 => ?_)
    exact q_iret C hr hlo dX6_seenRefusal_19
  · refine q_aload_n C dX6_seenRefusal_7 rfl (lv_at hl 0 rfl) ?_
    refine g_6_1 C hk0 kf_X6_19 dX6_seenRefusal_8 ?_
    refine q_c1i C (fun r h => cr_V (As := []) (rest := []) C (m_X4_exists l G F (k0 + 4) σ r h) cb_X4_exists (yk_6_1 hk0) (by decide) rfl (cf_4 (yk_6_1 hk0) _) rfl kl_X6_245 ⟨Nat.le_of_ble_eq_true rfl, Nat.le_of_ble_eq_true rfl⟩ ⟨Nat.zero_le _, Nat.zero_le _⟩ hl.1 rfl (Nat.le_of_ble_eq_true rfl) dX6_seenRefusal_11 rfl) (fun v3 => ?_)
    refine q_if_ne C 20 dX6_seenRefusal_14 (by decide) ?_ ?_
    · refine q_aload_n C dX6_seenRefusal_20 rfl (lv_at hl 0 rfl) ?_
      refine g_6_4 C hk0 kf_X6_32 dX6_seenRefusal_21 ?_
      refine q_iload_n C dX6_seenRefusal_24 rfl (lv_at hl 1 rfl) ?_
      refine a_ald14 C (yk_6_4 hk0) (yl_6_4 hk0) dX6_seenRefusal_25 (fun h4 => ?_)
      refine q_astore_n C [(2, .ref (gad G (k0 + 11 + 212 + 2 * a1.toInt.toNat))), (0, .ref (gad G k0)), (1, .int a1)] dX6_seenRefusal_26 rfl hl (by decide) rfl (fun ls hl => ?_)
      refine q_aload_n C dX6_seenRefusal_27 rfl (lv_at hl 0 rfl) ?_
      refine g_5_0 C (ye_14 (yk_6_4 hk0) (i := a1.toInt.toNat) (by omega)) kf_X6_281 dX6_seenRefusal_28 (fun v5 => ?_)
      refine q_if_ne C 37 dX6_seenRefusal_31 (by decide) ?_ ?_
      · refine q_aload_n C dX6_seenRefusal_37 rfl (lv_at hl 0 rfl) ?_
        refine g_5_2 C (ye_14 (yk_6_4 hk0) (i := a1.toInt.toNat) (by omega)) kf_X6_284 dX6_seenRefusal_38 (fun v6 => ?_)
        refine q_iconst C dX6_seenRefusal_41 rfl (by decide) (fun v7 => ?_)
        refine q_irem C dX6_seenRefusal_42 (fun v8 => ?_)
        refine q_if_eq C 49 dX6_seenRefusal_43 (by decide) ?_ ?_
        · refine q_iconst C dX6_seenRefusal_49 rfl (by decide) (fun v9 => ?_)
          refine q_istore_n C [(3, .int v9), (2, .ref (gad G (k0 + 11 + 212 + 2 * a1.toInt.toNat))), (0, .ref (gad G k0)), (1, .int a1)] dX6_seenRefusal_50 rfl hl (by decide) rfl (fun ls hl => ?_)
          exact B51 F (k0 + 11 + 212 + 2 * a1.toInt.toNat) v9 ls (lv_sub hl [2, 1, 0] rfl) (ye_14 (yk_6_4 hk0) (i := a1.toInt.toNat) (by omega))
        · refine q_bipush C dX6_seenRefusal_46 rfl (by decide) (fun v39 => ?_)
          exact q_iret C hr hlo dX6_seenRefusal_48
      · refine q_bipush C dX6_seenRefusal_34 rfl (by decide) (fun v40 => ?_)
        exact q_iret C hr hlo dX6_seenRefusal_36
    · refine q_bipush C dX6_seenRefusal_17 rfl (by decide) (fun v41 => ?_)
      exact q_iret C hr hlo dX6_seenRefusal_19
def f_X6_isAsSeen_L32 (F : Nat) (k0 : Nat) (a1 : Nat) (a2 : Int) (K17 : Int → St → Option (Int × St))  : Nat → Int → Int → St → Option (Int × St)
  | 0, _, _, _ => none
  | n + 1, x7, x8, σ =>
    z_gt 2 fun v9 =>
    z_ck (x8 + v9) fun v10 =>
    z_gt (σ a1 2) fun v11 =>
    if v11 ≤ v10 then (
      z_c1 (f_X4_size F (k0 + 4) σ) fun v12 =>
      if v12 ≤ x7 then (
        z_ck (x7 + 1) fun v13 =>
        K17 v13 σ)
      else (
        z_c1 (f_X6_isOut F a2 x7 σ) fun v14 =>
        if ¬ v14 = 0 then (
          z_ck (x7 + 1) fun v15 =>
          K17 v15 σ)
        else (
          z_c2 (f_X0_apply F (k0 + 208) (k0 + 4) x7 σ) fun v16 σ2 =>
          z_ck (x7 + 1) fun v17 =>
          K17 v17 σ2)))
    else (
      z_c1 (f_X5_numberAt F a1 x8 σ) fun v18 =>
      z_gt x7 fun v19 =>
      z_gt (z_cmp v18 v19) fun v20 =>
      if ¬ v20 = 0 then (
        z_ck (x8 + 3) fun v21 =>
        f_X6_isAsSeen_L32 F k0 a1 a2 K17 n x7 v21 σ)
      else (
        z_gt 1 fun v22 =>
        z_ck (x8 + v22) fun v23 =>
        z_c1 (f_X5_numberAt F a1 v23 σ) fun v24 =>
        z_gt (z_l2i v24) fun v25 =>
        z_c1 (f_X0_cellAt F (k0 + 208) v25 σ) fun v26 =>
        z_gt v26 fun v27 =>
        z_gt 2 fun v28 =>
        z_ck (x8 + v28) fun v29 =>
        z_c1 (f_X5_numberAt F a1 v29 σ) fun v30 =>
        z_gt (z_cmp v27 v30) fun v31 =>
        if v31 = 0 then (
          z_ck (x8 + 3) fun v32 =>
          f_X6_isAsSeen_L32 F k0 a1 a2 K17 n x7 v32 σ)
        else (
          z_gt 0 fun v33 =>
          z_bo v33 <| some (v33, σ))))

def f_X6_isAsSeen_L17 (F : Nat) (k0 : Nat) (a1 : Nat) (a2 : Int)   : Nat → Int → St → Option (Int × St)
  | 0, _, _ => none
  | n + 1, x3, σ =>
    z_c1 (f_X4_size F (k0 + 4) σ) fun v4 =>
    if v4 < x3 then (
      z_gt 1 fun v5 =>
      z_bo v5 <| some (v5, σ))
    else (
      z_gt 0 fun v6 =>
      f_X6_isAsSeen_L32 F k0 a1 a2 (f_X6_isAsSeen_L17 F k0 a1 a2 n) F x3 v6 σ)

def f_X6_isAsSeen (F : Nat) (k0 : Nat) (a1 : Nat) (a2 : Int) (σ : St) : Option (Int × St) :=
  z_ob 6 k0 <| z_ob 5 a1 <| 
  z_gt (σ (k0 + 4) 0) fun v1 =>
  z_c1 (f_X0_clear F (k0 + 208) v1 σ) fun σ1 =>
  z_gt 0 fun v2 =>
  f_X6_isAsSeen_L17 F k0 a1 a2 F v2 σ1
theorem cb_X6_isAsSeen : CB yX6_isAsSeen cX6_isAsSeen 6 (some .boolean) 2 := ⟨ki_X6_isAsSeen, kq_X6_isAsSeen, kn_X6, kc_X6_isAsSeen, by decide +kernel, by decide +kernel, by decide +kernel⟩
set_option maxRecDepth 20000 in
set_option maxHeartbeats 4000000 in
theorem m_X6_isAsSeen (l : Launch) (G : GG) (F : Nat) (k0 : Nat) (a1 : Nat) (a2 : Int64) (σ : St) : ∀ r, f_X6_isAsSeen F k0 a1 a2.toInt σ = some r → MC G l yX6_isAsSeen cX6_isAsSeen 6 (some .boolean) { frames := 2, cells := 0, slots := 0, locals := 66 } [.ref (gad G k0), .ref (gad G a1), .long a2] σ (vI r.1) r.2 := by
  refine MC_of (own := RX6) (fun r : Int × St => vI r.1) (fun r : Int × St => r.2) (by decide +kernel) rfl (Nat.le_of_ble_eq_true rfl) ?_
  intro p e s m args below meth c C hr hlo ls hl
  have hl : lv_has ls 6 [(0, .ref (gad G k0)), (1, .ref (gad G a1)), (2, .long a2)] := hl
  unfold f_X6_isAsSeen
  refine q_ob (fun hk0 => ?_)
  refine q_ob (fun hk1 => ?_)
  have B32 : ∀ (K17 : Int → St → Option (Int × St)) (hK17 : ∀ (y0 : Int32) (σ : St) (ls : Array Slot), lv_has ls 6 [(0, .ref (gad G k0)), (1, .ref (gad G a1)), (2, .long a2), (4, .int y0)] → Sim G (AG G) 0 0 p l e { frames := 2, cells := 0, slots := 0, locals := 66 } s m args below meth c (fun r : Int × St => MQ below (QC G (vI r.1) (r.2)) args s 0 0 (AG G)) σ (K17 y0.toInt σ) (F0 m 17 ls [])), ∀ (n : Nat) (x7 : Int32) (x8 : Int32) (σ : St) (ls : Array Slot), lv_has ls 6 [(0, .ref (gad G k0)), (1, .ref (gad G a1)), (2, .long a2), (4, .int x7), (5, .int x8)] → Sim G (AG G) 0 0 p l e { frames := 2, cells := 0, slots := 0, locals := 66 } s m args below meth c (fun r : Int × St => MQ below (QC G (vI r.1) (r.2)) args s 0 0 (AG G)) σ (f_X6_isAsSeen_L32 F k0 a1 a2.toInt K17  n x7.toInt x8.toInt σ) (F0 m 32 ls []) := by
    intro K17 hK17
    intro n
    induction n with
    | zero =>
      intro x7 x8 σ ls hl
      exact sim_none
    | succ n ih =>
      intro x7 x8 σ ls hl
      rw [f_X6_isAsSeen_L32]
      refine q_iload C dX6_isAsSeen_32 (lv_at hl 4 rfl) ?_
      refine q_iconst C dX6_isAsSeen_34 rfl (by decide) (fun v9 => ?_)
      refine q_iadd C dX6_isAsSeen_35 (fun v10 => ?_)
      refine q_aload_n C dX6_isAsSeen_36 rfl (lv_at hl 1 rfl) ?_
      refine g_5_2 C hk1 kf_X6_284 dX6_isAsSeen_37 (fun v11 => ?_)
      refine q_icmp_ge C 93 dX6_isAsSeen_40 (by decide) ?_ ?_
      · refine q_iload C dX6_isAsSeen_93 (lv_at hl 3 rfl) ?_
        refine q_aload_n C dX6_isAsSeen_95 rfl (lv_at hl 0 rfl) ?_
        refine g_6_1 C hk0 kf_X6_19 dX6_isAsSeen_96 ?_
        refine q_c1i C (fun r h => cr_V (As := []) (rest := [.int x7]) C (m_X4_size l G F (k0 + 4) σ r h) cb_X4_size (yk_6_1 hk0) (by decide) rfl (cf_4 (yk_6_1 hk0) _) rfl kl_X6_249 ⟨Nat.le_of_ble_eq_true rfl, Nat.le_of_ble_eq_true rfl⟩ ⟨Nat.zero_le _, Nat.zero_le _⟩ hl.1 rfl (Nat.le_of_ble_eq_true rfl) dX6_isAsSeen_99 rfl) (fun v12 => ?_)
        refine q_icmp_ge C 128 dX6_isAsSeen_102 (by decide) ?_ ?_
        · refine q_iinc (k := 3) C (fun v13 => [(4, .int v13), (0, .ref (gad G k0)), (1, .ref (gad G a1)), (2, .long a2), (5, .int x8)]) dX6_isAsSeen_128 hl rfl (by decide) (by decide) (fun _ => rfl) (fun v13 ls hl => ?_)
          refine q_goto C 17 dX6_isAsSeen_131 (by decide) ?_
          exact hK17 v13 σ ls (lv_sub hl [1, 2, 3, 0] rfl)
        · refine q_lload_n C dX6_isAsSeen_105 rfl (lv_at hl 2 rfl) ?_
          refine q_iload C dX6_isAsSeen_106 (lv_at hl 3 rfl) ?_
          refine q_c1i C (fun r h => cr_S (As := [.long a2, .int x7]) (rest := []) C (m_X6_isOut l G F a2 x7 σ r h) sb_X6_isOut kl_X6_293 ⟨Nat.le_of_ble_eq_true rfl, Nat.le_of_ble_eq_true rfl⟩ ⟨Nat.zero_le _, Nat.zero_le _⟩ hl.1 rfl (Nat.le_of_ble_eq_true rfl) dX6_isAsSeen_108 rfl) (fun v14 => ?_)
          refine q_if_ne C 128 dX6_isAsSeen_111 (by decide) ?_ ?_
          · refine q_iinc (k := 3) C (fun v15 => [(4, .int v15), (0, .ref (gad G k0)), (1, .ref (gad G a1)), (2, .long a2), (5, .int x8)]) dX6_isAsSeen_128 hl rfl (by decide) (by decide) (fun _ => rfl) (fun v15 ls hl => ?_)
            refine q_goto C 17 dX6_isAsSeen_131 (by decide) ?_
            exact hK17 v15 σ ls (lv_sub hl [1, 2, 3, 0] rfl)
          · refine q_aload_n C dX6_isAsSeen_114 rfl (lv_at hl 0 rfl) ?_
            refine g_6_7 C hk0 kf_X6_49 dX6_isAsSeen_115 ?_
            refine q_aload_n C dX6_isAsSeen_118 rfl (lv_at hl 0 rfl) ?_
            refine g_6_1 C hk0 kf_X6_19 dX6_isAsSeen_119 ?_
            refine q_iload C dX6_isAsSeen_122 (lv_at hl 3 rfl) ?_
            refine q_c2i C (fun r h => cr_V (As := [.ref (gad G (k0 + 4)), .int x7]) (rest := []) C (m_X0_apply l G F (k0 + 208) (k0 + 4) x7 σ r h) cb_X0_apply (yk_6_7 hk0) (by decide) rfl (cf_0 (yk_6_7 hk0) _) rfl kl_X6_235 ⟨Nat.le_of_ble_eq_true rfl, Nat.le_of_ble_eq_true rfl⟩ ⟨Nat.zero_le _, Nat.zero_le _⟩ hl.1 rfl (Nat.le_of_ble_eq_true rfl) dX6_isAsSeen_124 rfl) (fun v16 σ2 => ?_)
            refine q_pop C dX6_isAsSeen_127 rfl ?_
            refine q_iinc (k := 3) C (fun v17 => [(4, .int v17), (0, .ref (gad G k0)), (1, .ref (gad G a1)), (2, .long a2), (5, .int x8)]) dX6_isAsSeen_128 hl rfl (by decide) (by decide) (fun _ => rfl) (fun v17 ls hl => ?_)
            refine q_goto C 17 dX6_isAsSeen_131 (by decide) ?_
            exact hK17 v17 σ2 ls (lv_sub hl [1, 2, 3, 0] rfl)
      · refine q_aload_n C dX6_isAsSeen_43 rfl (lv_at hl 1 rfl) ?_
        refine q_iload C dX6_isAsSeen_44 (lv_at hl 4 rfl) ?_
        refine q_c1l C (fun r h => cr_V (As := [.int x8]) (rest := []) C (m_X5_numberAt l G F a1 x8 σ r h) cb_X5_numberAt hk1 (by decide) rfl (cf_5 hk1 _) rfl kl_X6_285 ⟨Nat.le_of_ble_eq_true rfl, Nat.le_of_ble_eq_true rfl⟩ ⟨Nat.zero_le _, Nat.zero_le _⟩ hl.1 rfl (Nat.le_of_ble_eq_true rfl) dX6_isAsSeen_46 rfl) (fun v18 => ?_)
        refine q_iload C dX6_isAsSeen_49 (lv_at hl 3 rfl) ?_
        refine q_i2l C dX6_isAsSeen_51 (fun v19 => ?_)
        refine q_lcmp C dX6_isAsSeen_52 (fun v20 => ?_)
        refine q_if_ne C 87 dX6_isAsSeen_53 (by decide) ?_ ?_
        · refine q_iinc (k := 4) C (fun v21 => [(5, .int v21), (0, .ref (gad G k0)), (1, .ref (gad G a1)), (2, .long a2), (4, .int x7)]) dX6_isAsSeen_87 hl rfl (by decide) (by decide) (fun _ => rfl) (fun v21 ls hl => ?_)
          refine q_goto C 32 dX6_isAsSeen_90 (by decide) ?_
          exact ih x7 v21 σ ls (lv_sub hl [1, 2, 3, 4, 0] rfl)
        · refine q_aload_n C dX6_isAsSeen_56 rfl (lv_at hl 0 rfl) ?_
          refine g_6_7 C hk0 kf_X6_49 dX6_isAsSeen_57 ?_
          refine q_aload_n C dX6_isAsSeen_60 rfl (lv_at hl 1 rfl) ?_
          refine q_iload C dX6_isAsSeen_61 (lv_at hl 4 rfl) ?_
          refine q_iconst C dX6_isAsSeen_63 rfl (by decide) (fun v22 => ?_)
          refine q_iadd C dX6_isAsSeen_64 (fun v23 => ?_)
          refine q_c1l C (fun r h => cr_V (As := [.int v23]) (rest := [.ref (gad G (k0 + 208))]) C (m_X5_numberAt l G F a1 v23 σ r h) cb_X5_numberAt hk1 (by decide) rfl (cf_5 hk1 _) rfl kl_X6_285 ⟨Nat.le_of_ble_eq_true rfl, Nat.le_of_ble_eq_true rfl⟩ ⟨Nat.zero_le _, Nat.zero_le _⟩ hl.1 rfl (Nat.le_of_ble_eq_true rfl) dX6_isAsSeen_65 rfl) (fun v24 => ?_)
          refine q_l2i C dX6_isAsSeen_68 (fun v25 => ?_)
          refine q_c1i C (fun r h => cr_V (As := [.int v25]) (rest := []) C (m_X0_cellAt l G F (k0 + 208) v25 σ r h) cb_X0_cellAt (yk_6_7 hk0) (by decide) rfl (cf_0 (yk_6_7 hk0) _) rfl kl_X6_123 ⟨Nat.le_of_ble_eq_true rfl, Nat.le_of_ble_eq_true rfl⟩ ⟨Nat.zero_le _, Nat.zero_le _⟩ hl.1 rfl (Nat.le_of_ble_eq_true rfl) dX6_isAsSeen_69 rfl) (fun v26 => ?_)
          refine q_i2l C dX6_isAsSeen_72 (fun v27 => ?_)
          refine q_aload_n C dX6_isAsSeen_73 rfl (lv_at hl 1 rfl) ?_
          refine q_iload C dX6_isAsSeen_74 (lv_at hl 4 rfl) ?_
          refine q_iconst C dX6_isAsSeen_76 rfl (by decide) (fun v28 => ?_)
          refine q_iadd C dX6_isAsSeen_77 (fun v29 => ?_)
          refine q_c1l C (fun r h => cr_V (As := [.int v29]) (rest := [.long v27]) C (m_X5_numberAt l G F a1 v29 σ r h) cb_X5_numberAt hk1 (by decide) rfl (cf_5 hk1 _) rfl kl_X6_285 ⟨Nat.le_of_ble_eq_true rfl, Nat.le_of_ble_eq_true rfl⟩ ⟨Nat.zero_le _, Nat.zero_le _⟩ hl.1 rfl (Nat.le_of_ble_eq_true rfl) dX6_isAsSeen_78 rfl) (fun v30 => ?_)
          refine q_lcmp C dX6_isAsSeen_81 (fun v31 => ?_)
          refine q_if_eq C 87 dX6_isAsSeen_82 (by decide) ?_ ?_
          · refine q_iinc (k := 4) C (fun v32 => [(5, .int v32), (0, .ref (gad G k0)), (1, .ref (gad G a1)), (2, .long a2), (4, .int x7)]) dX6_isAsSeen_87 hl rfl (by decide) (by decide) (fun _ => rfl) (fun v32 ls hl => ?_)
            refine q_goto C 32 dX6_isAsSeen_90 (by decide) ?_
            exact ih x7 v32 σ ls (lv_sub hl [1, 2, 3, 4, 0] rfl)
          · refine q_iconst C dX6_isAsSeen_85 rfl (by decide) (fun v33 => ?_)
            exact q_zretE C hr hlo dX6_isAsSeen_86
  have B17 : ∀ (n : Nat) (x3 : Int32) (σ : St) (ls : Array Slot), lv_has ls 6 [(0, .ref (gad G k0)), (1, .ref (gad G a1)), (2, .long a2), (4, .int x3)] → Sim G (AG G) 0 0 p l e { frames := 2, cells := 0, slots := 0, locals := 66 } s m args below meth c (fun r : Int × St => MQ below (QC G (vI r.1) (r.2)) args s 0 0 (AG G)) σ (f_X6_isAsSeen_L17 F k0 a1 a2.toInt   n x3.toInt σ) (F0 m 17 ls []) := by
    intro n
    induction n with
    | zero =>
      intro x3 σ ls hl
      exact sim_none
    | succ n ih =>
      intro x3 σ ls hl
      rw [f_X6_isAsSeen_L17]
      refine q_iload C dX6_isAsSeen_17 (lv_at hl 3 rfl) ?_
      refine q_aload_n C dX6_isAsSeen_19 rfl (lv_at hl 0 rfl) ?_
      refine g_6_1 C hk0 kf_X6_19 dX6_isAsSeen_20 ?_
      refine q_c1i C (fun r h => cr_V (As := []) (rest := [.int x3]) C (m_X4_size l G F (k0 + 4) σ r h) cb_X4_size (yk_6_1 hk0) (by decide) rfl (cf_4 (yk_6_1 hk0) _) rfl kl_X6_249 ⟨Nat.le_of_ble_eq_true rfl, Nat.le_of_ble_eq_true rfl⟩ ⟨Nat.zero_le _, Nat.zero_le _⟩ hl.1 rfl (Nat.le_of_ble_eq_true rfl) dX6_isAsSeen_23 rfl) (fun v4 => ?_)
      refine q_icmp_gt C 134 dX6_isAsSeen_26 (by decide) ?_ ?_
      · refine q_iconst C dX6_isAsSeen_134 rfl (by decide) (fun v5 => ?_)
        exact q_zretE C hr hlo dX6_isAsSeen_135
      · refine q_iconst C dX6_isAsSeen_29 rfl (by decide) (fun v6 => ?_)
        refine q_istore C [(5, .int v6), (0, .ref (gad G k0)), (1, .ref (gad G a1)), (2, .long a2), (4, .int x3)] dX6_isAsSeen_30 hl (by decide) rfl (fun ls hl => ?_)
        exact B32 (f_X6_isAsSeen_L17 F k0 a1 a2.toInt n) ih F x3 v6 σ ls (lv_sub hl [1, 2, 3, 4, 0] rfl)
  refine q_aload_n C dX6_isAsSeen_0 rfl (lv_at hl 0 rfl) ?_
  refine g_6_7 C hk0 kf_X6_49 dX6_isAsSeen_1 ?_
  refine q_aload_n C dX6_isAsSeen_4 rfl (lv_at hl 0 rfl) ?_
  refine g_6_1 C hk0 kf_X6_19 dX6_isAsSeen_5 ?_
  refine g_4_0 C (yk_6_1 hk0) kf_X6_226 dX6_isAsSeen_8 (fun v1 => ?_)
  refine q_cv C (fun r h => cr_V (As := [.int v1]) (rest := []) C (m_X0_clear l G F (k0 + 208) v1 σ r h) cb_X0_clear (yk_6_7 hk0) (by decide) rfl (cf_0 (yk_6_7 hk0) _) rfl kl_X6_229 ⟨Nat.le_of_ble_eq_true rfl, Nat.le_of_ble_eq_true rfl⟩ ⟨Nat.zero_le _, Nat.zero_le _⟩ hl.1 rfl (Nat.le_of_ble_eq_true rfl) dX6_isAsSeen_11 rfl) (fun σ1 => ?_)
  refine q_iconst C dX6_isAsSeen_14 rfl (by decide) (fun v2 => ?_)
  refine q_istore C [(4, .int v2), (0, .ref (gad G k0)), (1, .ref (gad G a1)), (2, .long a2)] dX6_isAsSeen_15 hl (by decide) rfl (fun ls hl => ?_)
  exact B17 F v2 σ1 ls (lv_sub hl [1, 2, 3, 0] rfl)
def f_X6_may_L17 (F : Nat) (k0 : Nat) (a1 : Int)   : Nat → Int → Int → St → Option (Int × St)
  | 0, _, _, _ => none
  | n + 1, x4, x5, σ =>
    z_gt (σ (k0 + 4) 3) fun v6 =>
    if v6 ≤ x5 then (
      some (x4, σ))
    else (
      z_ix a1 4 <|
      z_gt 1 fun v8 =>
      z_gt (z_lshl v8 x5) fun v9 =>
      z_c2 (f_X6_isAsSeen F k0 (k0 + 11 + 212 + 2 * a1.toNat) v9 σ) fun v10 σ1 =>
      if v10 = 0 then (
        z_ck (x5 + 1) fun v11 =>
        f_X6_may_L17 F k0 a1 n x4 v11 σ1)
      else (
        z_ck (x4 + 1) fun v12 =>
        z_ck (x5 + 1) fun v13 =>
        f_X6_may_L17 F k0 a1 n v12 v13 σ1))

def f_X6_may (F : Nat) (k0 : Nat) (a1 : Int) (σ : St) : Option (Int × St) :=
  z_ob 6 k0 <| 
  z_c1 (f_X6_seenRefusal F k0 a1 σ) fun v1 =>
  if v1 = 0 then (
    z_gt 0 fun v2 =>
    z_gt 0 fun v3 =>
    f_X6_may_L17 F k0 a1 F v2 v3 σ)
  else (
    some (v1, σ))
theorem cb_X6_may : CB yX6_may cX6_may 5 (some .int) 1 := ⟨ki_X6_may, kq_X6_may, kn_X6, kc_X6_may, by decide +kernel, by decide +kernel, by decide +kernel⟩
set_option maxRecDepth 20000 in
set_option maxHeartbeats 4000000 in
theorem m_X6_may (l : Launch) (G : GG) (F : Nat) (k0 : Nat) (a1 : Int32) (σ : St) : ∀ r, f_X6_may F k0 a1.toInt σ = some r → MC G l yX6_may cX6_may 5 (some .int) { frames := 3, cells := 0, slots := 0, locals := 91 } [.ref (gad G k0), .int a1] σ (vI r.1) r.2 := by
  refine MC_of (own := RX6) (fun r : Int × St => vI r.1) (fun r : Int × St => r.2) (by decide +kernel) rfl (Nat.le_of_ble_eq_true rfl) ?_
  intro p e s m args below meth c C hr hlo ls hl
  have hl : lv_has ls 5 [(0, .ref (gad G k0)), (1, .int a1)] := hl
  unfold f_X6_may
  refine q_ob (fun hk0 => ?_)
  have B17 : ∀ (n : Nat) (x4 : Int32) (x5 : Int32) (σ : St) (ls : Array Slot), lv_has ls 5 [(0, .ref (gad G k0)), (1, .int a1), (3, .int x4), (4, .int x5)] → Sim G (AG G) 0 0 p l e { frames := 3, cells := 0, slots := 0, locals := 91 } s m args below meth c (fun r : Int × St => MQ below (QC G (vI r.1) (r.2)) args s 0 0 (AG G)) σ (f_X6_may_L17 F k0 a1.toInt   n x4.toInt x5.toInt σ) (F0 m 17 ls []) := by
    intro n
    induction n with
    | zero =>
      intro x4 x5 σ ls hl
      exact sim_none
    | succ n ih =>
      intro x4 x5 σ ls hl
      rw [f_X6_may_L17]
      refine q_iload C dX6_may_17 (lv_at hl 3 rfl) ?_
      refine q_aload_n C dX6_may_19 rfl (lv_at hl 0 rfl) ?_
      refine g_6_1 C hk0 kf_X6_19 dX6_may_20 ?_
      refine g_4_3 C (yk_6_1 hk0) kf_X6_268 dX6_may_23 (fun v6 => ?_)
      refine q_icmp_ge C 55 dX6_may_26 (by decide) ?_ ?_
      · refine q_iload_n C dX6_may_55 rfl (lv_at hl 2 rfl) ?_
        exact q_iretE C hr hlo dX6_may_56
      · refine q_aload_n C dX6_may_29 rfl (lv_at hl 0 rfl) ?_
        refine q_aload_n C dX6_may_30 rfl (lv_at hl 0 rfl) ?_
        refine g_6_4 C hk0 kf_X6_32 dX6_may_31 ?_
        refine q_iload_n C dX6_may_34 rfl (lv_at hl 1 rfl) ?_
        refine a_ald14 C (yk_6_4 hk0) (yl_6_4 hk0) dX6_may_35 (fun h7 => ?_)
        refine q_lconst C dX6_may_36 rfl (by decide) (fun v8 => ?_)
        refine q_iload C dX6_may_37 (lv_at hl 3 rfl) ?_
        refine q_lshl C dX6_may_39 (fun v9 => ?_)
        refine q_c2i C (fun r h => cr_V (As := [.ref (gad G (k0 + 11 + 212 + 2 * a1.toInt.toNat)), .long v9]) (rest := []) C (m_X6_isAsSeen l G F k0 (k0 + 11 + 212 + 2 * a1.toInt.toNat) v9 σ r h) cb_X6_isAsSeen hk0 (by decide) rfl (cf_6 hk0 _) rfl kl_X6_274 ⟨Nat.le_of_ble_eq_true rfl, Nat.le_of_ble_eq_true rfl⟩ ⟨Nat.zero_le _, Nat.zero_le _⟩ hl.1 rfl (Nat.le_of_ble_eq_true rfl) dX6_may_40 rfl) (fun v10 σ1 => ?_)
        refine q_if_eq C 49 dX6_may_43 (by decide) ?_ ?_
        · refine q_iinc (k := 3) C (fun v11 => [(4, .int v11), (0, .ref (gad G k0)), (1, .int a1), (3, .int x4)]) dX6_may_49 hl rfl (by decide) (by decide) (fun _ => rfl) (fun v11 ls hl => ?_)
          refine q_goto C 17 dX6_may_52 (by decide) ?_
          exact ih x4 v11 σ1 ls (lv_sub hl [1, 2, 3, 0] rfl)
        · refine q_iinc (k := 2) C (fun v12 => [(3, .int v12), (0, .ref (gad G k0)), (1, .int a1), (4, .int x5)]) dX6_may_46 hl rfl (by decide) (by decide) (fun _ => rfl) (fun v12 ls hl => ?_)
          refine q_iinc (k := 3) C (fun v13 => [(4, .int v13), (3, .int v12), (0, .ref (gad G k0)), (1, .int a1)]) dX6_may_49 hl rfl (by decide) (by decide) (fun _ => rfl) (fun v13 ls hl => ?_)
          refine q_goto C 17 dX6_may_52 (by decide) ?_
          exact ih v12 v13 σ1 ls (lv_sub hl [2, 3, 1, 0] rfl)
  refine q_aload_n C dX6_may_0 rfl (lv_at hl 0 rfl) ?_
  refine q_iload_n C dX6_may_1 rfl (lv_at hl 1 rfl) ?_
  refine q_c1i C (fun r h => cr_V (As := [.int a1]) (rest := []) C (m_X6_seenRefusal l G F k0 a1 σ r h) cb_X6_seenRefusal hk0 (by decide) rfl (cf_6 hk0 _) rfl kl_X6_271 ⟨Nat.le_of_ble_eq_true rfl, Nat.le_of_ble_eq_true rfl⟩ ⟨Nat.zero_le _, Nat.zero_le _⟩ hl.1 rfl (Nat.le_of_ble_eq_true rfl) dX6_may_2 rfl) (fun v1 => ?_)
  refine q_istore_n C [(2, .int v1), (0, .ref (gad G k0)), (1, .int a1)] dX6_may_5 rfl hl (by decide) rfl (fun ls hl => ?_)
  refine q_iload_n C dX6_may_6 rfl (lv_at hl 0 rfl) ?_
  refine q_if_eq C 12 dX6_may_7 (by decide) ?_ ?_
  · refine q_iconst C dX6_may_12 rfl (by decide) (fun v2 => ?_)
    refine q_istore_n C [(3, .int v2), (2, .int v1), (0, .ref (gad G k0)), (1, .int a1)] dX6_may_13 rfl hl (by decide) rfl (fun ls hl => ?_)
    refine q_iconst C dX6_may_14 rfl (by decide) (fun v3 => ?_)
    refine q_istore C [(4, .int v3), (3, .int v2), (2, .int v1), (0, .ref (gad G k0)), (1, .int a1)] dX6_may_15 hl (by decide) rfl (fun ls hl => ?_)
    exact B17 F v2 v3 σ ls (lv_sub hl [3, 4, 1, 0] rfl)
  · refine q_iload_n C dX6_may_10 rfl (lv_at hl 0 rfl) ?_
    exact q_iretE C hr hlo dX6_may_11
def f_X6_which_L14 (F : Nat) (k0 : Nat) (a1 : Int)   : Nat → Int → St → Option (Int × St)
  | 0, _, _ => none
  | n + 1, x3, σ =>
    z_gt (σ (k0 + 4) 3) fun v4 =>
    if v4 ≤ x3 then (
      z_gt (-1) fun v5 =>
      some (v5, σ))
    else (
      z_ix a1 4 <|
      z_gt 1 fun v7 =>
      z_gt (z_lshl v7 x3) fun v8 =>
      z_c2 (f_X6_isAsSeen F k0 (k0 + 11 + 212 + 2 * a1.toNat) v8 σ) fun v9 σ1 =>
      if v9 = 0 then (
        z_ck (x3 + 1) fun v10 =>
        f_X6_which_L14 F k0 a1 n v10 σ1)
      else (
        some (x3, σ1)))

def f_X6_which (F : Nat) (k0 : Nat) (a1 : Int) (σ : St) : Option (Int × St) :=
  z_ob 6 k0 <| 
  z_c1 (f_X6_seenRefusal F k0 a1 σ) fun v1 =>
  if v1 = 0 then (
    z_gt 0 fun v2 =>
    f_X6_which_L14 F k0 a1 F v2 σ)
  else (
    some (v1, σ))
theorem cb_X6_which : CB yX6_which cX6_which 4 (some .int) 1 := ⟨ki_X6_which, kq_X6_which, kn_X6, kc_X6_which, by decide +kernel, by decide +kernel, by decide +kernel⟩
set_option maxRecDepth 20000 in
set_option maxHeartbeats 4000000 in
theorem m_X6_which (l : Launch) (G : GG) (F : Nat) (k0 : Nat) (a1 : Int32) (σ : St) : ∀ r, f_X6_which F k0 a1.toInt σ = some r → MC G l yX6_which cX6_which 4 (some .int) { frames := 3, cells := 0, slots := 0, locals := 91 } [.ref (gad G k0), .int a1] σ (vI r.1) r.2 := by
  refine MC_of (own := RX6) (fun r : Int × St => vI r.1) (fun r : Int × St => r.2) (by decide +kernel) rfl (Nat.le_of_ble_eq_true rfl) ?_
  intro p e s m args below meth c C hr hlo ls hl
  have hl : lv_has ls 4 [(0, .ref (gad G k0)), (1, .int a1)] := hl
  unfold f_X6_which
  refine q_ob (fun hk0 => ?_)
  have B14 : ∀ (n : Nat) (x3 : Int32) (σ : St) (ls : Array Slot), lv_has ls 4 [(0, .ref (gad G k0)), (1, .int a1), (3, .int x3)] → Sim G (AG G) 0 0 p l e { frames := 3, cells := 0, slots := 0, locals := 91 } s m args below meth c (fun r : Int × St => MQ below (QC G (vI r.1) (r.2)) args s 0 0 (AG G)) σ (f_X6_which_L14 F k0 a1.toInt   n x3.toInt σ) (F0 m 14 ls []) := by
    intro n
    induction n with
    | zero =>
      intro x3 σ ls hl
      exact sim_none
    | succ n ih =>
      intro x3 σ ls hl
      rw [f_X6_which_L14]
      refine q_iload_n C dX6_which_14 rfl (lv_at hl 2 rfl) ?_
      refine q_aload_n C dX6_which_15 rfl (lv_at hl 0 rfl) ?_
      refine g_6_1 C hk0 kf_X6_19 dX6_which_16 ?_
      refine g_4_3 C (yk_6_1 hk0) kf_X6_268 dX6_which_19 (fun v4 => ?_)
      refine q_icmp_ge C 49 dX6_which_22 (by decide) ?_ ?_
      · refine q_iconst C dX6_which_49 rfl (by decide) (fun v5 => ?_)
        exact q_iretE C hr hlo dX6_which_50
      · refine q_aload_n C dX6_which_25 rfl (lv_at hl 0 rfl) ?_
        refine q_aload_n C dX6_which_26 rfl (lv_at hl 0 rfl) ?_
        refine g_6_4 C hk0 kf_X6_32 dX6_which_27 ?_
        refine q_iload_n C dX6_which_30 rfl (lv_at hl 1 rfl) ?_
        refine a_ald14 C (yk_6_4 hk0) (yl_6_4 hk0) dX6_which_31 (fun h6 => ?_)
        refine q_lconst C dX6_which_32 rfl (by decide) (fun v7 => ?_)
        refine q_iload_n C dX6_which_33 rfl (lv_at hl 2 rfl) ?_
        refine q_lshl C dX6_which_34 (fun v8 => ?_)
        refine q_c2i C (fun r h => cr_V (As := [.ref (gad G (k0 + 11 + 212 + 2 * a1.toInt.toNat)), .long v8]) (rest := []) C (m_X6_isAsSeen l G F k0 (k0 + 11 + 212 + 2 * a1.toInt.toNat) v8 σ r h) cb_X6_isAsSeen hk0 (by decide) rfl (cf_6 hk0 _) rfl kl_X6_274 ⟨Nat.le_of_ble_eq_true rfl, Nat.le_of_ble_eq_true rfl⟩ ⟨Nat.zero_le _, Nat.zero_le _⟩ hl.1 rfl (Nat.le_of_ble_eq_true rfl) dX6_which_35 rfl) (fun v9 σ1 => ?_)
        refine q_if_eq C 43 dX6_which_38 (by decide) ?_ ?_
        · refine q_iinc (k := 2) C (fun v10 => [(3, .int v10), (0, .ref (gad G k0)), (1, .int a1)]) dX6_which_43 hl rfl (by decide) (by decide) (fun _ => rfl) (fun v10 ls hl => ?_)
          refine q_goto C 14 dX6_which_46 (by decide) ?_
          exact ih v10 σ1 ls (lv_sub hl [1, 2, 0] rfl)
        · refine q_iload_n C dX6_which_41 rfl (lv_at hl 2 rfl) ?_
          exact q_iretE C hr hlo dX6_which_42
  refine q_aload_n C dX6_which_0 rfl (lv_at hl 0 rfl) ?_
  refine q_iload_n C dX6_which_1 rfl (lv_at hl 1 rfl) ?_
  refine q_c1i C (fun r h => cr_V (As := [.int a1]) (rest := []) C (m_X6_seenRefusal l G F k0 a1 σ r h) cb_X6_seenRefusal hk0 (by decide) rfl (cf_6 hk0 _) rfl kl_X6_271 ⟨Nat.le_of_ble_eq_true rfl, Nat.le_of_ble_eq_true rfl⟩ ⟨Nat.zero_le _, Nat.zero_le _⟩ hl.1 rfl (Nat.le_of_ble_eq_true rfl) dX6_which_2 rfl) (fun v1 => ?_)
  refine q_istore_n C [(2, .int v1), (0, .ref (gad G k0)), (1, .int a1)] dX6_which_5 rfl hl (by decide) rfl (fun ls hl => ?_)
  refine q_iload_n C dX6_which_6 rfl (lv_at hl 0 rfl) ?_
  refine q_if_eq C 12 dX6_which_7 (by decide) ?_ ?_
  · refine q_iconst C dX6_which_12 rfl (by decide) (fun v2 => ?_)
    refine q_istore_n C [(3, .int v2), (2, .int v1), (0, .ref (gad G k0)), (1, .int a1)] dX6_which_13 rfl hl (by decide) rfl (fun ls hl => ?_)
    exact B14 F v2 σ ls (lv_sub hl [2, 3, 0] rfl)
  · refine q_iload_n C dX6_which_10 rfl (lv_at hl 0 rfl) ?_
    exact q_iretE C hr hlo dX6_which_11
def f_X6_plain (F : Nat) (k0 : Nat) (a1 : Int) (σ : St) : Option (Int × St) :=
  z_ob 6 k0 <| 
  z_c1 (f_X6_seenRefusal F k0 a1 σ) fun v1 =>
  if v1 = 0 then (
    z_ix a1 4 <|
    z_gt 0 fun v3 =>
    z_c2 (f_X6_isAsSeen F k0 (k0 + 11 + 212 + 2 * a1.toNat) v3 σ) fun v4 σ1 =>
    if v4 = 0 then (
      z_gt 0 fun v5 =>
      some (v5, σ1))
    else (
      z_gt 1 fun v6 =>
      some (v6, σ1)))
  else (
    some (v1, σ))
theorem cb_X6_plain : CB yX6_plain cX6_plain 3 (some .int) 1 := ⟨ki_X6_plain, kq_X6_plain, kn_X6, kc_X6_plain, by decide +kernel, by decide +kernel, by decide +kernel⟩
set_option maxRecDepth 20000 in
set_option maxHeartbeats 4000000 in
theorem m_X6_plain (l : Launch) (G : GG) (F : Nat) (k0 : Nat) (a1 : Int32) (σ : St) : ∀ r, f_X6_plain F k0 a1.toInt σ = some r → MC G l yX6_plain cX6_plain 3 (some .int) { frames := 3, cells := 0, slots := 0, locals := 91 } [.ref (gad G k0), .int a1] σ (vI r.1) r.2 := by
  refine MC_of (own := RX6) (fun r : Int × St => vI r.1) (fun r : Int × St => r.2) (by decide +kernel) rfl (Nat.le_of_ble_eq_true rfl) ?_
  intro p e s m args below meth c C hr hlo ls hl
  have hl : lv_has ls 3 [(0, .ref (gad G k0)), (1, .int a1)] := hl
  unfold f_X6_plain
  refine q_ob (fun hk0 => ?_)
  refine q_aload_n C dX6_plain_0 rfl (lv_at hl 0 rfl) ?_
  refine q_iload_n C dX6_plain_1 rfl (lv_at hl 1 rfl) ?_
  refine q_c1i C (fun r h => cr_V (As := [.int a1]) (rest := []) C (m_X6_seenRefusal l G F k0 a1 σ r h) cb_X6_seenRefusal hk0 (by decide) rfl (cf_6 hk0 _) rfl kl_X6_271 ⟨Nat.le_of_ble_eq_true rfl, Nat.le_of_ble_eq_true rfl⟩ ⟨Nat.zero_le _, Nat.zero_le _⟩ hl.1 rfl (Nat.le_of_ble_eq_true rfl) dX6_plain_2 rfl) (fun v1 => ?_)
  refine q_istore_n C [(2, .int v1), (0, .ref (gad G k0)), (1, .int a1)] dX6_plain_5 rfl hl (by decide) rfl (fun ls hl => ?_)
  refine q_iload_n C dX6_plain_6 rfl (lv_at hl 0 rfl) ?_
  refine q_if_eq C 12 dX6_plain_7 (by decide) ?_ ?_
  · refine q_aload_n C dX6_plain_12 rfl (lv_at hl 1 rfl) ?_
    refine q_aload_n C dX6_plain_13 rfl (lv_at hl 1 rfl) ?_
    refine g_6_4 C hk0 kf_X6_32 dX6_plain_14 ?_
    refine q_iload_n C dX6_plain_17 rfl (lv_at hl 2 rfl) ?_
    refine a_ald14 C (yk_6_4 hk0) (yl_6_4 hk0) dX6_plain_18 (fun h2 => ?_)
    refine q_lconst C dX6_plain_19 rfl (by decide) (fun v3 => ?_)
    refine q_c2i C (fun r h => cr_V (As := [.ref (gad G (k0 + 11 + 212 + 2 * a1.toInt.toNat)), .long v3]) (rest := []) C (m_X6_isAsSeen l G F k0 (k0 + 11 + 212 + 2 * a1.toInt.toNat) v3 σ r h) cb_X6_isAsSeen hk0 (by decide) rfl (cf_6 hk0 _) rfl kl_X6_274 ⟨Nat.le_of_ble_eq_true rfl, Nat.le_of_ble_eq_true rfl⟩ ⟨Nat.zero_le _, Nat.zero_le _⟩ hl.1 rfl (Nat.le_of_ble_eq_true rfl) dX6_plain_20 rfl) (fun v4 σ1 => ?_)
    refine q_if_eq C 30 dX6_plain_23 (by decide) ?_ ?_
    · refine q_iconst C dX6_plain_30 rfl (by decide) (fun v5 => ?_)
      exact q_iretE C hr hlo dX6_plain_31
    · refine q_iconst C dX6_plain_26 rfl (by decide) (fun v6 => ?_)
      refine q_goto C 31 dX6_plain_27 (by decide) ?_
      exact q_iretE C hr hlo dX6_plain_31
  · refine q_iload_n C dX6_plain_10 rfl (lv_at hl 0 rfl) ?_
    exact q_iretE C hr hlo dX6_plain_11
def f_X6_rescuedByLaw (F : Nat) (k0 : Nat) (a1 : Int) (σ : St) : Option (Int × St) :=
  z_ob 6 k0 <| 
  z_gt 0 fun v1 =>
  z_c1 (f_X3_play F (k0 + 110) (k0 + 4) a1 v1 σ) fun σ1 =>
  z_c1 (f_X3_allRescued F (k0 + 110) σ1) fun v2 =>
  some (v2, σ1)
theorem cb_X6_rescuedByLaw : CB yX6_rescuedByLaw cX6_rescuedByLaw 2 (some .int) 1 := ⟨ki_X6_rescuedByLaw, kq_X6_rescuedByLaw, kn_X6, kc_X6_rescuedByLaw, by decide +kernel, by decide +kernel, by decide +kernel⟩
set_option maxRecDepth 20000 in
set_option maxHeartbeats 4000000 in
theorem m_X6_rescuedByLaw (l : Launch) (G : GG) (F : Nat) (k0 : Nat) (a1 : Int32) (σ : St) : ∀ r, f_X6_rescuedByLaw F k0 a1.toInt σ = some r → MC G l yX6_rescuedByLaw cX6_rescuedByLaw 2 (some .int) { frames := 5, cells := 0, slots := 0, locals := 137 } [.ref (gad G k0), .int a1] σ (vI r.1) r.2 := by
  refine MC_of (own := RX6) (fun r : Int × St => vI r.1) (fun r : Int × St => r.2) (by decide +kernel) rfl (Nat.le_of_ble_eq_true rfl) ?_
  intro p e s m args below meth c C hr hlo ls hl
  have hl : lv_has ls 2 [(0, .ref (gad G k0)), (1, .int a1)] := hl
  unfold f_X6_rescuedByLaw
  refine q_ob (fun hk0 => ?_)
  refine q_aload_n C dX6_rescuedByLaw_0 rfl (lv_at hl 0 rfl) ?_
  refine g_6_6 C hk0 kf_X6_43 dX6_rescuedByLaw_1 ?_
  refine q_aload_n C dX6_rescuedByLaw_4 rfl (lv_at hl 0 rfl) ?_
  refine g_6_1 C hk0 kf_X6_19 dX6_rescuedByLaw_5 ?_
  refine q_iload_n C dX6_rescuedByLaw_8 rfl (lv_at hl 1 rfl) ?_
  refine q_lconst C dX6_rescuedByLaw_9 rfl (by decide) (fun v1 => ?_)
  refine q_cv C (fun r h => cr_V (As := [.ref (gad G (k0 + 4)), .int a1, .long v1]) (rest := []) C (m_X3_play l G F (k0 + 110) (k0 + 4) a1 v1 σ r h) cb_X3_play (yk_6_6 hk0) (by decide) rfl (cf_3 (yk_6_6 hk0) _) rfl kl_X6_299 ⟨Nat.le_of_ble_eq_true rfl, Nat.le_of_ble_eq_true rfl⟩ ⟨Nat.zero_le _, Nat.zero_le _⟩ hl.1 rfl (Nat.le_of_ble_eq_true rfl) dX6_rescuedByLaw_10 rfl) (fun σ1 => ?_)
  refine q_aload_n C dX6_rescuedByLaw_13 rfl (lv_at hl 0 rfl) ?_
  refine g_6_6 C hk0 kf_X6_43 dX6_rescuedByLaw_14 ?_
  refine q_c1i C (fun r h => cr_V (As := []) (rest := []) C (m_X3_allRescued l G F (k0 + 110) σ1 r h) cb_X3_allRescued (yk_6_6 hk0) (by decide) rfl (cf_3 (yk_6_6 hk0) _) rfl kl_X6_300 ⟨Nat.le_of_ble_eq_true rfl, Nat.le_of_ble_eq_true rfl⟩ ⟨Nat.zero_le _, Nat.zero_le _⟩ hl.1 rfl (Nat.le_of_ble_eq_true rfl) dX6_rescuedByLaw_17 rfl) (fun v2 => ?_)
  exact q_iretE C hr hlo dX6_rescuedByLaw_20
def f_X6_by (F : Nat) (k0 : Nat) (a1 : Int) (σ : St) : Option (Int × St) :=
  z_ob 6 k0 <| 
  z_c1 (f_X4_exists F (k0 + 4) σ) fun v1 =>
  if v1 = 0 then (
    z_gt (-2) fun v2 =>
    some (v2, σ))
  else (
    if a1 < 0 then (
      z_gt (-2) fun v3 =>
      some (v3, σ))
    else (
      z_gt 3 fun v4 =>
      if a1 ≤ v4 then (
        z_c2 (f_X6_rescuedByLaw F k0 a1 σ) fun v5 σ1 =>
        some (v5, σ1))
      else (
        z_gt (-2) fun v6 =>
        some (v6, σ))))
theorem cb_X6_by : CB yX6_by cX6_by 2 (some .int) 1 := ⟨ki_X6_by, kq_X6_by, kn_X6, kc_X6_by, by decide +kernel, by decide +kernel, by decide +kernel⟩
set_option maxRecDepth 20000 in
set_option maxHeartbeats 4000000 in
theorem m_X6_by (l : Launch) (G : GG) (F : Nat) (k0 : Nat) (a1 : Int32) (σ : St) : ∀ r, f_X6_by F k0 a1.toInt σ = some r → MC G l yX6_by cX6_by 2 (some .int) { frames := 6, cells := 0, slots := 0, locals := 158 } [.ref (gad G k0), .int a1] σ (vI r.1) r.2 := by
  refine MC_of (own := RX6) (fun r : Int × St => vI r.1) (fun r : Int × St => r.2) (by decide +kernel) rfl (Nat.le_of_ble_eq_true rfl) ?_
  intro p e s m args below meth c C hr hlo ls hl
  have hl : lv_has ls 2 [(0, .ref (gad G k0)), (1, .int a1)] := hl
  unfold f_X6_by
  refine q_ob (fun hk0 => ?_)
  refine q_aload_n C dX6_by_0 rfl (lv_at hl 0 rfl) ?_
  refine g_6_1 C hk0 kf_X6_19 dX6_by_1 ?_
  refine q_c1i C (fun r h => cr_V (As := []) (rest := []) C (m_X4_exists l G F (k0 + 4) σ r h) cb_X4_exists (yk_6_1 hk0) (by decide) rfl (cf_4 (yk_6_1 hk0) _) rfl kl_X6_245 ⟨Nat.le_of_ble_eq_true rfl, Nat.le_of_ble_eq_true rfl⟩ ⟨Nat.zero_le _, Nat.zero_le _⟩ hl.1 rfl (Nat.le_of_ble_eq_true rfl) dX6_by_4 rfl) (fun v1 => ?_)
  refine q_if_eq C 19 dX6_by_7 (by decide) ?_ ?_
  · refine q_bipush C dX6_by_19 rfl (by decide) (fun v2 => ?_)
    exact q_iretE C hr hlo dX6_by_21
  · refine q_iload_n C dX6_by_10 rfl (lv_at hl 1 rfl) ?_
    refine q_if_lt C 19 dX6_by_11 (by decide) ?_ ?_
    · refine q_bipush C dX6_by_19 rfl (by decide) (fun v3 => ?_)
      exact q_iretE C hr hlo dX6_by_21
    · refine q_iload_n C dX6_by_14 rfl (lv_at hl 1 rfl) ?_
      refine q_iconst C dX6_by_15 rfl (by decide) (fun v4 => ?_)
      refine q_icmp_le C 22 dX6_by_16 (by decide) ?_ ?_
      · refine q_aload_n C dX6_by_22 rfl (lv_at hl 0 rfl) ?_
        refine q_iload_n C dX6_by_23 rfl (lv_at hl 1 rfl) ?_
        refine q_c2i C (fun r h => cr_V (As := [.int a1]) (rest := []) C (m_X6_rescuedByLaw l G F k0 a1 σ r h) cb_X6_rescuedByLaw hk0 (by decide) rfl (cf_6 hk0 _) rfl kl_X6_296 ⟨Nat.le_of_ble_eq_true rfl, Nat.le_of_ble_eq_true rfl⟩ ⟨Nat.zero_le _, Nat.zero_le _⟩ hl.1 rfl (Nat.le_of_ble_eq_true rfl) dX6_by_24 rfl) (fun v5 σ1 => ?_)
        exact q_iretE C hr hlo dX6_by_27
      · refine q_bipush C dX6_by_19 rfl (by decide) (fun v6 => ?_)
        exact q_iretE C hr hlo dX6_by_21
def f_X6_law_L23 (F : Nat) (k0 : Nat)   : Nat → Int → Int → Int → St → Option (Int × St)
  | 0, _, _, _, _ => none
  | n + 1, x6, x7, x8, σ =>
    z_gt 3 fun v9 =>
    if v9 < x8 then (
      some (x6, σ))
    else (
      z_c2 (f_X6_rescuedByLaw F k0 x8 σ) fun v10 σ2 =>
      if x7 ≤ v10 then (
        z_ck (x8 + 1) fun v11 =>
        f_X6_law_L23 F k0 n x6 x7 v11 σ2)
      else (
        z_ck (x8 + 1) fun v12 =>
        f_X6_law_L23 F k0 n x8 v10 v12 σ2))

def f_X6_law (F : Nat) (k0 : Nat) (σ : St) : Option (Int × St) :=
  z_ob 6 k0 <| 
  z_c1 (f_X4_exists F (k0 + 4) σ) fun v1 =>
  if ¬ v1 = 0 then (
    z_gt 0 fun v2 =>
    z_gt 0 fun v3 =>
    z_c2 (f_X6_rescuedByLaw F k0 v3 σ) fun v4 σ1 =>
    z_gt 1 fun v5 =>
    f_X6_law_L23 F k0 F v2 v4 v5 σ1)
  else (
    z_gt (-2) fun v13 =>
    some (v13, σ))
theorem cb_X6_law : CB yX6_law cX6_law 5 (some .int) 0 := ⟨ki_X6_law, kq_X6_law, kn_X6, kc_X6_law, by decide +kernel, by decide +kernel, by decide +kernel⟩
set_option maxRecDepth 20000 in
set_option maxHeartbeats 4000000 in
theorem m_X6_law (l : Launch) (G : GG) (F : Nat) (k0 : Nat) (σ : St) : ∀ r, f_X6_law F k0 σ = some r → MC G l yX6_law cX6_law 5 (some .int) { frames := 6, cells := 0, slots := 0, locals := 158 } [.ref (gad G k0)] σ (vI r.1) r.2 := by
  refine MC_of (own := RX6) (fun r : Int × St => vI r.1) (fun r : Int × St => r.2) (by decide +kernel) rfl (Nat.le_of_ble_eq_true rfl) ?_
  intro p e s m args below meth c C hr hlo ls hl
  have hl : lv_has ls 5 [(0, .ref (gad G k0))] := hl
  unfold f_X6_law
  refine q_ob (fun hk0 => ?_)
  have B23 : ∀ (n : Nat) (x6 : Int32) (x7 : Int32) (x8 : Int32) (σ : St) (ls : Array Slot), lv_has ls 5 [(0, .ref (gad G k0)), (1, .int x6), (2, .int x7), (3, .int x8)] → Sim G (AG G) 0 0 p l e { frames := 6, cells := 0, slots := 0, locals := 158 } s m args below meth c (fun r : Int × St => MQ below (QC G (vI r.1) (r.2)) args s 0 0 (AG G)) σ (f_X6_law_L23 F k0   n x6.toInt x7.toInt x8.toInt σ) (F0 m 23 ls []) := by
    intro n
    induction n with
    | zero =>
      intro x6 x7 x8 σ ls hl
      exact sim_none
    | succ n ih =>
      intro x6 x7 x8 σ ls hl
      rw [f_X6_law_L23]
      refine q_iload_n C dX6_law_23 rfl (lv_at hl 3 rfl) ?_
      refine q_iconst C dX6_law_24 rfl (by decide) (fun v9 => ?_)
      refine q_icmp_gt C 52 dX6_law_25 (by decide) ?_ ?_
      · refine q_iload_n C dX6_law_52 rfl (lv_at hl 1 rfl) ?_
        exact q_iretE C hr hlo dX6_law_53
      · refine q_aload_n C dX6_law_28 rfl (lv_at hl 0 rfl) ?_
        refine q_iload_n C dX6_law_29 rfl (lv_at hl 3 rfl) ?_
        refine q_c2i C (fun r h => cr_V (As := [.int x8]) (rest := []) C (m_X6_rescuedByLaw l G F k0 x8 σ r h) cb_X6_rescuedByLaw hk0 (by decide) rfl (cf_6 hk0 _) rfl kl_X6_296 ⟨Nat.le_of_ble_eq_true rfl, Nat.le_of_ble_eq_true rfl⟩ ⟨Nat.zero_le _, Nat.zero_le _⟩ hl.1 rfl (Nat.le_of_ble_eq_true rfl) dX6_law_30 rfl) (fun v10 σ2 => ?_)
        refine q_istore C [(4, .int v10), (0, .ref (gad G k0)), (1, .int x6), (2, .int x7), (3, .int x8)] dX6_law_33 hl (by decide) rfl (fun ls hl => ?_)
        refine q_iload C dX6_law_35 (lv_at hl 0 rfl) ?_
        refine q_iload_n C dX6_law_37 rfl (lv_at hl 3 rfl) ?_
        refine q_icmp_ge C 46 dX6_law_38 (by decide) ?_ ?_
        · refine q_iinc (k := 4) C (fun v11 => [(3, .int v11), (4, .int v10), (0, .ref (gad G k0)), (1, .int x6), (2, .int x7)]) dX6_law_46 hl rfl (by decide) (by decide) (fun _ => rfl) (fun v11 ls hl => ?_)
          refine q_goto C 23 dX6_law_49 (by decide) ?_
          exact ih x6 x7 v11 σ2 ls (lv_sub hl [2, 3, 4, 0] rfl)
        · refine q_iload C dX6_law_41 (lv_at hl 0 rfl) ?_
          refine q_istore_n C [(2, .int v10), (4, .int v10), (0, .ref (gad G k0)), (1, .int x6), (3, .int x8)] dX6_law_43 rfl hl (by decide) rfl (fun ls hl => ?_)
          refine q_iload_n C dX6_law_44 rfl (lv_at hl 4 rfl) ?_
          refine q_istore_n C [(1, .int x8), (2, .int v10), (4, .int v10), (0, .ref (gad G k0)), (3, .int x8)] dX6_law_45 rfl hl (by decide) rfl (fun ls hl => ?_)
          refine q_iinc (k := 4) C (fun v12 => [(3, .int v12), (1, .int x8), (2, .int v10), (4, .int v10), (0, .ref (gad G k0))]) dX6_law_46 hl rfl (by decide) (by decide) (fun _ => rfl) (fun v12 ls hl => ?_)
          refine q_goto C 23 dX6_law_49 (by decide) ?_
          exact ih x8 v10 v12 σ2 ls (lv_sub hl [4, 1, 2, 0] rfl)
  refine q_aload_n C dX6_law_0 rfl (lv_at hl 0 rfl) ?_
  refine g_6_1 C hk0 kf_X6_19 dX6_law_1 ?_
  refine q_c1i C (fun r h => cr_V (As := []) (rest := []) C (m_X4_exists l G F (k0 + 4) σ r h) cb_X4_exists (yk_6_1 hk0) (by decide) rfl (cf_4 (yk_6_1 hk0) _) rfl kl_X6_245 ⟨Nat.le_of_ble_eq_true rfl, Nat.le_of_ble_eq_true rfl⟩ ⟨Nat.zero_le _, Nat.zero_le _⟩ hl.1 rfl (Nat.le_of_ble_eq_true rfl) dX6_law_4 rfl) (fun v1 => ?_)
  refine q_if_ne C 13 dX6_law_7 (by decide) ?_ ?_
  · refine q_iconst C dX6_law_13 rfl (by decide) (fun v2 => ?_)
    refine q_istore_n C [(1, .int v2), (0, .ref (gad G k0))] dX6_law_14 rfl hl (by decide) rfl (fun ls hl => ?_)
    refine q_aload_n C dX6_law_15 rfl (lv_at hl 1 rfl) ?_
    refine q_iconst C dX6_law_16 rfl (by decide) (fun v3 => ?_)
    refine q_c2i C (fun r h => cr_V (As := [.int v3]) (rest := []) C (m_X6_rescuedByLaw l G F k0 v3 σ r h) cb_X6_rescuedByLaw hk0 (by decide) rfl (cf_6 hk0 _) rfl kl_X6_296 ⟨Nat.le_of_ble_eq_true rfl, Nat.le_of_ble_eq_true rfl⟩ ⟨Nat.zero_le _, Nat.zero_le _⟩ hl.1 rfl (Nat.le_of_ble_eq_true rfl) dX6_law_17 rfl) (fun v4 σ1 => ?_)
    refine q_istore_n C [(2, .int v4), (1, .int v2), (0, .ref (gad G k0))] dX6_law_20 rfl hl (by decide) rfl (fun ls hl => ?_)
    refine q_iconst C dX6_law_21 rfl (by decide) (fun v5 => ?_)
    refine q_istore_n C [(3, .int v5), (2, .int v4), (1, .int v2), (0, .ref (gad G k0))] dX6_law_22 rfl hl (by decide) rfl (fun ls hl => ?_)
    exact B23 F v2 v4 v5 σ1 ls (lv_sub hl [3, 2, 1, 0] rfl)
  · refine q_bipush C dX6_law_10 rfl (by decide) (fun v13 => ?_)
    exact q_iretE C hr hlo dX6_law_12
def f_X6_players_L4 (F : Nat) (k0 : Nat)  (σ : St) : Nat → Int → Int → Option (Int)
  | 0, _, _ => none
  | n + 1, x3, x4 =>
    z_gt 8 fun v5 =>
    if v5 ≤ x4 then (
      some x3)
    else (
      z_gt (σ (k0 + 4) 3) fun v6 =>
      if v6 ≤ x4 then (
        some x3)
      else (
        z_c1 (f_X4_isCommand F (k0 + 4) x4 σ) fun v7 =>
        if v7 = 0 then (
          z_ck (x4 + 1) fun v8 =>
          f_X6_players_L4 F k0 σ n x3 v8)
        else (
          z_gt 1 fun v9 =>
          z_gt (z_shl v9 x4) fun v10 =>
          z_gt (z_or x3 v10) fun v11 =>
          z_ck (x4 + 1) fun v12 =>
          f_X6_players_L4 F k0 σ n v11 v12)))

def f_X6_players (F : Nat) (k0 : Nat) (σ : St) : Option (Int) :=
  z_ob 6 k0 <| 
  z_gt 0 fun v1 =>
  z_gt 0 fun v2 =>
  f_X6_players_L4 F k0 σ F v1 v2
theorem cb_X6_players : CB yX6_players cX6_players 3 (some .int) 0 := ⟨ki_X6_players, kq_X6_players, kn_X6, kc_X6_players, by decide +kernel, by decide +kernel, by decide +kernel⟩
set_option maxRecDepth 20000 in
set_option maxHeartbeats 4000000 in
theorem m_X6_players (l : Launch) (G : GG) (F : Nat) (k0 : Nat) (σ : St) : ∀ r, f_X6_players F k0 σ = some r → MC G l yX6_players cX6_players 3 (some .int) { frames := 2, cells := 0, slots := 0, locals := 42 } [.ref (gad G k0)] σ (vI r) σ := by
  refine MC_of (own := RX6) (vI) (fun _ => σ) (by decide +kernel) rfl (Nat.le_of_ble_eq_true rfl) ?_
  intro p e s m args below meth c C hr hlo ls hl
  have hl : lv_has ls 3 [(0, .ref (gad G k0))] := hl
  unfold f_X6_players
  refine q_ob (fun hk0 => ?_)
  have B4 : ∀ (n : Nat) (x3 : Int32) (x4 : Int32) (ls : Array Slot), lv_has ls 3 [(0, .ref (gad G k0)), (1, .int x3), (2, .int x4)] → Sim G (AG G) 0 0 p l e { frames := 2, cells := 0, slots := 0, locals := 42 } s m args below meth c (fun r : Int => MQ below (QC G (vI r) (σ)) args s 0 0 (AG G)) σ (f_X6_players_L4 F k0  σ n x3.toInt x4.toInt) (F0 m 4 ls []) := by
    intro n
    induction n with
    | zero =>
      intro x3 x4 ls hl
      exact sim_none
    | succ n ih =>
      intro x3 x4 ls hl
      rw [f_X6_players_L4]
      refine q_iload_n C dX6_players_4 rfl (lv_at hl 2 rfl) ?_
      refine q_bipush C dX6_players_5 rfl (by decide) (fun v5 => ?_)
      refine q_icmp_ge C 44 dX6_players_7 (by decide) ?_ ?_
      · refine q_iload_n C dX6_players_44 rfl (lv_at hl 1 rfl) ?_
        exact q_iret C hr hlo dX6_players_45
      · refine q_iload_n C dX6_players_10 rfl (lv_at hl 2 rfl) ?_
        refine q_aload_n C dX6_players_11 rfl (lv_at hl 0 rfl) ?_
        refine g_6_1 C hk0 kf_X6_19 dX6_players_12 ?_
        refine g_4_3 C (yk_6_1 hk0) kf_X6_268 dX6_players_15 (fun v6 => ?_)
        refine q_icmp_ge C 44 dX6_players_18 (by decide) ?_ ?_
        · refine q_iload_n C dX6_players_44 rfl (lv_at hl 1 rfl) ?_
          exact q_iret C hr hlo dX6_players_45
        · refine q_aload_n C dX6_players_21 rfl (lv_at hl 0 rfl) ?_
          refine g_6_1 C hk0 kf_X6_19 dX6_players_22 ?_
          refine q_iload_n C dX6_players_25 rfl (lv_at hl 2 rfl) ?_
          refine q_c1i C (fun r h => cr_V (As := [.int x4]) (rest := []) C (m_X4_isCommand l G F (k0 + 4) x4 σ r h) cb_X4_isCommand (yk_6_1 hk0) (by decide) rfl (cf_4 (yk_6_1 hk0) _) rfl kl_X6_220 ⟨Nat.le_of_ble_eq_true rfl, Nat.le_of_ble_eq_true rfl⟩ ⟨Nat.zero_le _, Nat.zero_le _⟩ hl.1 rfl (Nat.le_of_ble_eq_true rfl) dX6_players_26 rfl) (fun v7 => ?_)
          refine q_if_eq C 38 dX6_players_29 (by decide) ?_ ?_
          · refine q_iinc (k := 2) C (fun v8 => [(2, .int v8), (0, .ref (gad G k0)), (1, .int x3)]) dX6_players_38 hl rfl (by decide) (by decide) (fun _ => rfl) (fun v8 ls hl => ?_)
            refine q_goto C 4 dX6_players_41 (by decide) ?_
            exact ih x3 v8 ls (lv_sub hl [1, 2, 0] rfl)
          · refine q_iload_n C dX6_players_32 rfl (lv_at hl 1 rfl) ?_
            refine q_iconst C dX6_players_33 rfl (by decide) (fun v9 => ?_)
            refine q_iload_n C dX6_players_34 rfl (lv_at hl 2 rfl) ?_
            refine q_ishl C dX6_players_35 (fun v10 => ?_)
            refine q_ior C dX6_players_36 (fun v11 => ?_)
            refine q_istore_n C [(1, .int v11), (0, .ref (gad G k0)), (2, .int x4)] dX6_players_37 rfl hl (by decide) rfl (fun ls hl => ?_)
            refine q_iinc (k := 2) C (fun v12 => [(2, .int v12), (1, .int v11), (0, .ref (gad G k0))]) dX6_players_38 hl rfl (by decide) (by decide) (fun _ => rfl) (fun v12 ls hl => ?_)
            refine q_goto C 4 dX6_players_41 (by decide) ?_
            exact ih v11 v12 ls (lv_sub hl [2, 1, 0] rfl)
  refine q_iconst C dX6_players_0 rfl (by decide) (fun v1 => ?_)
  refine q_istore_n C [(1, .int v1), (0, .ref (gad G k0))] dX6_players_1 rfl hl (by decide) rfl (fun ls hl => ?_)
  refine q_iconst C dX6_players_2 rfl (by decide) (fun v2 => ?_)
  refine q_istore_n C [(2, .int v2), (1, .int v1), (0, .ref (gad G k0))] dX6_players_3 rfl hl (by decide) rfl (fun ls hl => ?_)
  exact B4 F v1 v2 ls (lv_sub hl [2, 1, 0] rfl)
def f_X6_worthOf (F : Nat) (k0 : Nat) (a1 : Int) (a2 : Int) (σ : St) : Option (Int × St) :=
  z_ob 6 k0 <| 
  z_c1 (f_X4_size F (k0 + 4) σ) fun v1 =>
  z_gt (-1) fun v2 =>
  z_gt (z_xor a1 v2) fun v3 =>
  z_gt (z_and a2 v3) fun v4 =>
  z_gt v4 fun v5 =>
  z_c1 (f_X0_play F (k0 + 208) (k0 + 4) v1 v5 σ) fun σ1 =>
  z_gt (σ1 (k0 + 4) 0) fun v6 =>
  z_c1 (f_X0_zeros F (k0 + 208) σ1) fun v7 =>
  z_ck (v6 - v7) fun v8 =>
  some (v8, σ1)
theorem cb_X6_worthOf : CB yX6_worthOf cX6_worthOf 3 (some .int) 2 := ⟨ki_X6_worthOf, kq_X6_worthOf, kn_X6, kc_X6_worthOf, by decide +kernel, by decide +kernel, by decide +kernel⟩
set_option maxRecDepth 20000 in
set_option maxHeartbeats 4000000 in
theorem m_X6_worthOf (l : Launch) (G : GG) (F : Nat) (k0 : Nat) (a1 : Int32) (a2 : Int32) (σ : St) : ∀ r, f_X6_worthOf F k0 a1.toInt a2.toInt σ = some r → MC G l yX6_worthOf cX6_worthOf 3 (some .int) { frames := 3, cells := 0, slots := 0, locals := 91 } [.ref (gad G k0), .int a1, .int a2] σ (vI r.1) r.2 := by
  refine MC_of (own := RX6) (fun r : Int × St => vI r.1) (fun r : Int × St => r.2) (by decide +kernel) rfl (Nat.le_of_ble_eq_true rfl) ?_
  intro p e s m args below meth c C hr hlo ls hl
  have hl : lv_has ls 3 [(0, .ref (gad G k0)), (1, .int a1), (2, .int a2)] := hl
  unfold f_X6_worthOf
  refine q_ob (fun hk0 => ?_)
  refine q_aload_n C dX6_worthOf_0 rfl (lv_at hl 0 rfl) ?_
  refine g_6_7 C hk0 kf_X6_49 dX6_worthOf_1 ?_
  refine q_aload_n C dX6_worthOf_4 rfl (lv_at hl 0 rfl) ?_
  refine g_6_1 C hk0 kf_X6_19 dX6_worthOf_5 ?_
  refine q_aload_n C dX6_worthOf_8 rfl (lv_at hl 0 rfl) ?_
  refine g_6_1 C hk0 kf_X6_19 dX6_worthOf_9 ?_
  refine q_c1i C (fun r h => cr_V (As := []) (rest := [.ref (gad G (k0 + 4)), .ref (gad G (k0 + 208))]) C (m_X4_size l G F (k0 + 4) σ r h) cb_X4_size (yk_6_1 hk0) (by decide) rfl (cf_4 (yk_6_1 hk0) _) rfl kl_X6_249 ⟨Nat.le_of_ble_eq_true rfl, Nat.le_of_ble_eq_true rfl⟩ ⟨Nat.zero_le _, Nat.zero_le _⟩ hl.1 rfl (Nat.le_of_ble_eq_true rfl) dX6_worthOf_12 rfl) (fun v1 => ?_)
  refine q_iload_n C dX6_worthOf_15 rfl (lv_at hl 2 rfl) ?_
  refine q_iload_n C dX6_worthOf_16 rfl (lv_at hl 1 rfl) ?_
  refine q_iconst C dX6_worthOf_17 rfl (by decide) (fun v2 => ?_)
  refine q_ixor C dX6_worthOf_18 (fun v3 => ?_)
  refine q_iand C dX6_worthOf_19 (fun v4 => ?_)
  refine q_i2l C dX6_worthOf_20 (fun v5 => ?_)
  refine q_cv C (fun r h => cr_V (As := [.ref (gad G (k0 + 4)), .int v1, .long v5]) (rest := []) C (m_X0_play l G F (k0 + 208) (k0 + 4) v1 v5 σ r h) cb_X0_play (yk_6_7 hk0) (by decide) rfl (cf_0 (yk_6_7 hk0) _) rfl kl_X6_251 ⟨Nat.le_of_ble_eq_true rfl, Nat.le_of_ble_eq_true rfl⟩ ⟨Nat.zero_le _, Nat.zero_le _⟩ hl.1 rfl (Nat.le_of_ble_eq_true rfl) dX6_worthOf_21 rfl) (fun σ1 => ?_)
  refine q_aload_n C dX6_worthOf_24 rfl (lv_at hl 0 rfl) ?_
  refine g_6_1 C hk0 kf_X6_19 dX6_worthOf_25 ?_
  refine g_4_0 C (yk_6_1 hk0) kf_X6_226 dX6_worthOf_28 (fun v6 => ?_)
  refine q_aload_n C dX6_worthOf_31 rfl (lv_at hl 0 rfl) ?_
  refine g_6_7 C hk0 kf_X6_49 dX6_worthOf_32 ?_
  refine q_c1i C (fun r h => cr_V (As := []) (rest := [.int v6]) C (m_X0_zeros l G F (k0 + 208) σ1 r h) cb_X0_zeros (yk_6_7 hk0) (by decide) rfl (cf_0 (yk_6_7 hk0) _) rfl kl_X6_265 ⟨Nat.le_of_ble_eq_true rfl, Nat.le_of_ble_eq_true rfl⟩ ⟨Nat.zero_le _, Nat.zero_le _⟩ hl.1 rfl (Nat.le_of_ble_eq_true rfl) dX6_worthOf_35 rfl) (fun v7 => ?_)
  refine q_isub C dX6_worthOf_38 (fun v8 => ?_)
  exact q_iretE C hr hlo dX6_worthOf_39
def f_X6_worth (F : Nat) (k0 : Nat) (a1 : Int) (σ : St) : Option (Int × St) :=
  z_ob 6 k0 <| 
  z_c1 (f_X4_exists F (k0 + 4) σ) fun v1 =>
  if v1 = 0 then (
    z_gt (-2) fun v2 =>
    some (v2, σ))
  else (
    if a1 < 0 then (
      z_gt (-2) fun v3 =>
      some (v3, σ))
    else (
      z_gt 256 fun v4 =>
      if a1 < v4 then (
        z_c1 (f_X6_players F k0 σ) fun v5 =>
        z_c2 (f_X6_worthOf F k0 a1 v5 σ) fun v6 σ1 =>
        some (v6, σ1))
      else (
        z_gt (-2) fun v7 =>
        some (v7, σ))))
theorem cb_X6_worth : CB yX6_worth cX6_worth 2 (some .int) 1 := ⟨ki_X6_worth, kq_X6_worth, kn_X6, kc_X6_worth, by decide +kernel, by decide +kernel, by decide +kernel⟩
set_option maxRecDepth 20000 in
set_option maxHeartbeats 4000000 in
theorem m_X6_worth (l : Launch) (G : GG) (F : Nat) (k0 : Nat) (a1 : Int32) (σ : St) : ∀ r, f_X6_worth F k0 a1.toInt σ = some r → MC G l yX6_worth cX6_worth 2 (some .int) { frames := 4, cells := 0, slots := 0, locals := 113 } [.ref (gad G k0), .int a1] σ (vI r.1) r.2 := by
  refine MC_of (own := RX6) (fun r : Int × St => vI r.1) (fun r : Int × St => r.2) (by decide +kernel) rfl (Nat.le_of_ble_eq_true rfl) ?_
  intro p e s m args below meth c C hr hlo ls hl
  have hl : lv_has ls 2 [(0, .ref (gad G k0)), (1, .int a1)] := hl
  unfold f_X6_worth
  refine q_ob (fun hk0 => ?_)
  refine q_aload_n C dX6_worth_0 rfl (lv_at hl 0 rfl) ?_
  refine g_6_1 C hk0 kf_X6_19 dX6_worth_1 ?_
  refine q_c1i C (fun r h => cr_V (As := []) (rest := []) C (m_X4_exists l G F (k0 + 4) σ r h) cb_X4_exists (yk_6_1 hk0) (by decide) rfl (cf_4 (yk_6_1 hk0) _) rfl kl_X6_245 ⟨Nat.le_of_ble_eq_true rfl, Nat.le_of_ble_eq_true rfl⟩ ⟨Nat.zero_le _, Nat.zero_le _⟩ hl.1 rfl (Nat.le_of_ble_eq_true rfl) dX6_worth_4 rfl) (fun v1 => ?_)
  refine q_if_eq C 21 dX6_worth_7 (by decide) ?_ ?_
  · refine q_bipush C dX6_worth_21 rfl (by decide) (fun v2 => ?_)
    exact q_iretE C hr hlo dX6_worth_23
  · refine q_iload_n C dX6_worth_10 rfl (lv_at hl 1 rfl) ?_
    refine q_if_lt C 21 dX6_worth_11 (by decide) ?_ ?_
    · refine q_bipush C dX6_worth_21 rfl (by decide) (fun v3 => ?_)
      exact q_iretE C hr hlo dX6_worth_23
    · refine q_iload_n C dX6_worth_14 rfl (lv_at hl 1 rfl) ?_
      refine q_sipush C dX6_worth_15 rfl (by decide) (fun v4 => ?_)
      refine q_icmp_lt C 24 dX6_worth_18 (by decide) ?_ ?_
      · refine q_aload_n C dX6_worth_24 rfl (lv_at hl 0 rfl) ?_
        refine q_iload_n C dX6_worth_25 rfl (lv_at hl 1 rfl) ?_
        refine q_aload_n C dX6_worth_26 rfl (lv_at hl 0 rfl) ?_
        refine q_c1i C (fun r h => cr_V (As := []) (rest := [.int a1, .ref (gad G k0)]) C (m_X6_players l G F k0 σ r h) cb_X6_players hk0 (by decide) rfl (cf_6 hk0 _) rfl kl_X6_303 ⟨Nat.le_of_ble_eq_true rfl, Nat.le_of_ble_eq_true rfl⟩ ⟨Nat.zero_le _, Nat.zero_le _⟩ hl.1 rfl (Nat.le_of_ble_eq_true rfl) dX6_worth_27 rfl) (fun v5 => ?_)
        refine q_c2i C (fun r h => cr_V (As := [.int a1, .int v5]) (rest := []) C (m_X6_worthOf l G F k0 a1 v5 σ r h) cb_X6_worthOf hk0 (by decide) rfl (cf_6 hk0 _) rfl kl_X6_306 ⟨Nat.le_of_ble_eq_true rfl, Nat.le_of_ble_eq_true rfl⟩ ⟨Nat.zero_le _, Nat.zero_le _⟩ hl.1 rfl (Nat.le_of_ble_eq_true rfl) dX6_worth_30 rfl) (fun v6 σ1 => ?_)
        exact q_iretE C hr hlo dX6_worth_33
      · refine q_bipush C dX6_worth_21 rfl (by decide) (fun v7 => ?_)
        exact q_iretE C hr hlo dX6_worth_23
def f_X6_isTold (F : Nat) (k0 : Nat) (a1 : Int) (σ : St) : Option (Int) :=
  z_ob 6 k0 <| 
  if a1 < 0 then (
    z_gt 0 fun v1 =>
    z_bo v1 <| some v1)
  else (
    z_gt (σ (k0 + 4) 3) fun v2 =>
    if v2 ≤ a1 then (
      z_gt 0 fun v3 =>
      z_bo v3 <| some v3)
    else (
      z_gt 1 fun v4 =>
      z_bo v4 <| some v4))
theorem cb_X6_isTold : CB yX6_isTold cX6_isTold 2 (some .boolean) 1 := ⟨ki_X6_isTold, kq_X6_isTold, kn_X6, kc_X6_isTold, by decide +kernel, by decide +kernel, by decide +kernel⟩
set_option maxRecDepth 20000 in
set_option maxHeartbeats 4000000 in
theorem m_X6_isTold (l : Launch) (G : GG) (F : Nat) (k0 : Nat) (a1 : Int32) (σ : St) : ∀ r, f_X6_isTold F k0 a1.toInt σ = some r → MC G l yX6_isTold cX6_isTold 2 (some .boolean) { frames := 0, cells := 0, slots := 0, locals := 0 } [.ref (gad G k0), .int a1] σ (vI r) σ := by
  refine MC_of (own := RX6) (vI) (fun _ => σ) (by decide +kernel) rfl (Nat.le_of_ble_eq_true rfl) ?_
  intro p e s m args below meth c C hr hlo ls hl
  have hl : lv_has ls 2 [(0, .ref (gad G k0)), (1, .int a1)] := hl
  unfold f_X6_isTold
  refine q_ob (fun hk0 => ?_)
  refine q_iload_n C dX6_isTold_0 rfl (lv_at hl 1 rfl) ?_
  refine q_if_lt C 19 dX6_isTold_1 (by decide) ?_ ?_
  · refine q_iconst C dX6_isTold_19 rfl (by decide) (fun v1 => ?_)
    exact q_zret C hr hlo dX6_isTold_20
  · refine q_iload_n C dX6_isTold_4 rfl (lv_at hl 1 rfl) ?_
    refine q_aload_n C dX6_isTold_5 rfl (lv_at hl 0 rfl) ?_
    refine g_6_1 C hk0 kf_X6_19 dX6_isTold_6 ?_
    refine g_4_3 C (yk_6_1 hk0) kf_X6_268 dX6_isTold_9 (fun v2 => ?_)
    refine q_icmp_ge C 19 dX6_isTold_12 (by decide) ?_ ?_
    · refine q_iconst C dX6_isTold_19 rfl (by decide) (fun v3 => ?_)
      exact q_zret C hr hlo dX6_isTold_20
    · refine q_iconst C dX6_isTold_15 rfl (by decide) (fun v4 => ?_)
      refine q_goto C 20 dX6_isTold_16 (by decide) ?_
      exact q_zret C hr hlo dX6_isTold_20
def f_X6_fillWorths_L2 (F : Nat) (k0 : Nat) (a1 : Int)   : Nat → Int → St → Option (St)
  | 0, _, _ => none
  | n + 1, x2, σ =>
    z_gt 256 fun v3 =>
    if v3 ≤ x2 then (
      some σ)
    else (
      z_gt (-1) fun v4 =>
      z_gt (z_xor a1 v4) fun v5 =>
      z_gt (z_and x2 v5) fun v6 =>
      if ¬ v6 = 0 then (
        z_ck (x2 + 1) fun v7 =>
        f_X6_fillWorths_L2 F k0 a1 n v7 σ)
      else (
        z_c2 (f_X6_worthOf F k0 x2 a1 σ) fun v8 σ1 =>
        z_ix x2 256 <| z_sg (z_up σ1 (k0 + 212) x2 v8) fun σ2 =>
        z_ck (x2 + 1) fun v9 =>
        f_X6_fillWorths_L2 F k0 a1 n v9 σ2))

def f_X6_fillWorths (F : Nat) (k0 : Nat) (a1 : Int) (σ : St) : Option (St) :=
  z_ob 6 k0 <| 
  z_gt 0 fun v1 =>
  f_X6_fillWorths_L2 F k0 a1 F v1 σ
theorem cb_X6_fillWorths : CB yX6_fillWorths cX6_fillWorths 3 none 1 := ⟨ki_X6_fillWorths, kq_X6_fillWorths, kn_X6, kc_X6_fillWorths, by decide +kernel, by decide +kernel, by decide +kernel⟩
set_option maxRecDepth 20000 in
set_option maxHeartbeats 4000000 in
theorem m_X6_fillWorths (l : Launch) (G : GG) (F : Nat) (k0 : Nat) (a1 : Int32) (σ : St) : ∀ r, f_X6_fillWorths F k0 a1.toInt σ = some r → MC G l yX6_fillWorths cX6_fillWorths 3 none { frames := 4, cells := 0, slots := 0, locals := 113 } [.ref (gad G k0), .int a1] σ vV r := by
  refine MC_of (own := RX6) (fun _ => vV) (fun r => r) (by decide +kernel) rfl (Nat.le_of_ble_eq_true rfl) ?_
  intro p e s m args below meth c C hr hlo ls hl
  have hl : lv_has ls 3 [(0, .ref (gad G k0)), (1, .int a1)] := hl
  unfold f_X6_fillWorths
  refine q_ob (fun hk0 => ?_)
  have B2 : ∀ (n : Nat) (x2 : Int32) (σ : St) (ls : Array Slot), lv_has ls 3 [(0, .ref (gad G k0)), (1, .int a1), (2, .int x2)] → Sim G (AG G) 0 0 p l e { frames := 4, cells := 0, slots := 0, locals := 113 } s m args below meth c (fun r : St => MQ below (QC G (vV) (r)) args s 0 0 (AG G)) σ (f_X6_fillWorths_L2 F k0 a1.toInt   n x2.toInt σ) (F0 m 2 ls []) := by
    intro n
    induction n with
    | zero =>
      intro x2 σ ls hl
      exact sim_none
    | succ n ih =>
      intro x2 σ ls hl
      rw [f_X6_fillWorths_L2]
      refine q_iload_n C dX6_fillWorths_2 rfl (lv_at hl 2 rfl) ?_
      refine q_sipush C dX6_fillWorths_3 rfl (by decide) (fun v3 => ?_)
      refine q_icmp_ge C 35 dX6_fillWorths_6 (by decide) ?_ ?_
      · exact q_vretE C hr hlo dX6_fillWorths_35
      · refine q_iload_n C dX6_fillWorths_9 rfl (lv_at hl 2 rfl) ?_
        refine q_iload_n C dX6_fillWorths_10 rfl (lv_at hl 1 rfl) ?_
        refine q_iconst C dX6_fillWorths_11 rfl (by decide) (fun v4 => ?_)
        refine q_ixor C dX6_fillWorths_12 (fun v5 => ?_)
        refine q_iand C dX6_fillWorths_13 (fun v6 => ?_)
        refine q_if_ne C 29 dX6_fillWorths_14 (by decide) ?_ ?_
        · refine q_iinc (k := 2) C (fun v7 => [(2, .int v7), (0, .ref (gad G k0)), (1, .int a1)]) dX6_fillWorths_29 hl rfl (by decide) (by decide) (fun _ => rfl) (fun v7 ls hl => ?_)
          refine q_goto C 2 dX6_fillWorths_32 (by decide) ?_
          exact ih v7 σ ls (lv_sub hl [1, 2, 0] rfl)
        · refine q_aload_n C dX6_fillWorths_17 rfl (lv_at hl 0 rfl) ?_
          refine g_6_9 C hk0 kf_X6_56 dX6_fillWorths_18 ?_
          refine q_iload_n C dX6_fillWorths_21 rfl (lv_at hl 2 rfl) ?_
          refine q_aload_n C dX6_fillWorths_22 rfl (lv_at hl 0 rfl) ?_
          refine q_iload_n C dX6_fillWorths_23 rfl (lv_at hl 2 rfl) ?_
          refine q_iload_n C dX6_fillWorths_24 rfl (lv_at hl 1 rfl) ?_
          refine q_c2i C (fun r h => cr_V (As := [.int x2, .int a1]) (rest := [.int x2, .ref (gad G (k0 + 212))]) C (m_X6_worthOf l G F k0 x2 a1 σ r h) cb_X6_worthOf hk0 (by decide) rfl (cf_6 hk0 _) rfl kl_X6_306 ⟨Nat.le_of_ble_eq_true rfl, Nat.le_of_ble_eq_true rfl⟩ ⟨Nat.zero_le _, Nat.zero_le _⟩ hl.1 rfl (Nat.le_of_ble_eq_true rfl) dX6_fillWorths_25 rfl) (fun v8 σ1 => ?_)
          refine a_ist C (yk_6_9 hk0) (yl_6_9 hk0) dX6_fillWorths_28 (q_sg (fun σ2 => ?_))
          refine q_iinc (k := 2) C (fun v9 => [(2, .int v9), (0, .ref (gad G k0)), (1, .int a1)]) dX6_fillWorths_29 hl rfl (by decide) (by decide) (fun _ => rfl) (fun v9 ls hl => ?_)
          refine q_goto C 2 dX6_fillWorths_32 (by decide) ?_
          exact ih v9 σ2 ls (lv_sub hl [1, 2, 0] rfl)
  refine q_iconst C dX6_fillWorths_0 rfl (by decide) (fun v1 => ?_)
  refine q_istore_n C [(2, .int v1), (0, .ref (gad G k0)), (1, .int a1)] dX6_fillWorths_1 rfl hl (by decide) rfl (fun ls hl => ?_)
  exact B2 F v1 σ ls (lv_sub hl [1, 2, 0] rfl)
def f_X6_factorial_L4 (F : Nat) (a1 : Int)  (σ : St) : Nat → Int → Int → Option (Int)
  | 0, _, _ => none
  | n + 1, x3, x4 =>
    if a1 < x4 then (
      some x3)
    else (
      z_gt x4 fun v5 =>
      z_lk (x3 * v5) fun v6 =>
      z_ck (x4 + 1) fun v7 =>
      f_X6_factorial_L4 F a1 σ n v6 v7)

def f_X6_factorial (F : Nat) (a1 : Int) (σ : St) : Option (Int) :=
  
  z_gt 1 fun v1 =>
  z_gt 2 fun v2 =>
  f_X6_factorial_L4 F a1 σ F v1 v2
theorem sb_X6_factorial : SB yX6_factorial cX6_factorial 4 (some .long) 1 := ⟨ks_X6_factorial, kn_X6, kc_X6_factorial, by decide +kernel, by decide +kernel, by decide +kernel⟩
set_option maxRecDepth 20000 in
set_option maxHeartbeats 4000000 in
theorem m_X6_factorial (l : Launch) (G : GG) (F : Nat) (a1 : Int32) (σ : St) : ∀ r, f_X6_factorial F a1.toInt σ = some r → MC G l yX6_factorial cX6_factorial 4 (some .long) { frames := 0, cells := 0, slots := 0, locals := 0 } [.int a1] σ (vL r) σ := by
  refine MC_of (own := RX6) (vL) (fun _ => σ) (by decide +kernel) rfl (Nat.le_of_ble_eq_true rfl) ?_
  intro p e s m args below meth c C hr hlo ls hl
  have hl : lv_has ls 4 [(0, .int a1)] := hl
  unfold f_X6_factorial
  have B4 : ∀ (n : Nat) (x3 : Int64) (x4 : Int32) (ls : Array Slot), lv_has ls 4 [(0, .int a1), (1, .long x3), (3, .int x4)] → Sim G (AG G) 0 0 p l e { frames := 0, cells := 0, slots := 0, locals := 0 } s m args below meth c (fun r : Int => MQ below (QC G (vL r) (σ)) args s 0 0 (AG G)) σ (f_X6_factorial_L4 F a1.toInt  σ n x3.toInt x4.toInt) (F0 m 4 ls []) := by
    intro n
    induction n with
    | zero =>
      intro x3 x4 ls hl
      exact sim_none
    | succ n ih =>
      intro x3 x4 ls hl
      rw [f_X6_factorial_L4]
      refine q_iload_n C dX6_factorial_4 rfl (lv_at hl 2 rfl) ?_
      refine q_iload_n C dX6_factorial_5 rfl (lv_at hl 0 rfl) ?_
      refine q_icmp_gt C 20 dX6_factorial_6 (by decide) ?_ ?_
      · refine q_lload_n C dX6_factorial_20 rfl (lv_at hl 1 rfl) ?_
        exact q_lret C hr hlo dX6_factorial_21
      · refine q_lload_n C dX6_factorial_9 rfl (lv_at hl 1 rfl) ?_
        refine q_iload_n C dX6_factorial_10 rfl (lv_at hl 2 rfl) ?_
        refine q_i2l C dX6_factorial_11 (fun v5 => ?_)
        refine q_lmul C dX6_factorial_12 (fun v6 => ?_)
        refine q_lstore_n C [(1, .long v6), (0, .int a1), (3, .int x4)] dX6_factorial_13 rfl hl (by decide) rfl (fun ls hl => ?_)
        refine q_iinc (k := 2) C (fun v7 => [(3, .int v7), (1, .long v6), (0, .int a1)]) dX6_factorial_14 hl rfl (by decide) (by decide) (fun _ => rfl) (fun v7 ls hl => ?_)
        refine q_goto C 4 dX6_factorial_17 (by decide) ?_
        exact ih v6 v7 ls (lv_sub hl [2, 1, 0] rfl)
  refine q_lconst C dX6_factorial_0 rfl (by decide) (fun v1 => ?_)
  refine q_lstore_n C [(1, .long v1), (0, .int a1)] dX6_factorial_1 rfl hl (by decide) rfl (fun ls hl => ?_)
  refine q_iconst C dX6_factorial_2 rfl (by decide) (fun v2 => ?_)
  refine q_istore_n C [(3, .int v2), (1, .long v1), (0, .int a1)] dX6_factorial_3 rfl hl (by decide) rfl (fun ls hl => ?_)
  exact B4 F v1 v2 ls (lv_sub hl [2, 1, 0] rfl)
def f_X6_lowest_J47 (F : Nat) (a1 : Int) (a2 : Int) (a3 : Int)  (σ : St) (x7 : Int)  : Option (Int) :=
  z_gt 0 fun v8 =>
  z_gt (z_cmp x7 v8) fun v9 =>
  if ¬ v9 = 0 then (
    if ¬ a3 = 0 then (
      z_nz x7 <| z_lk (a2.tdiv x7) fun v10 =>
      some v10)
    else (
      z_nz x7 <| z_lk (a1.tdiv x7) fun v11 =>
      some v11))
  else (
    z_gt 0 fun v12 =>
    some v12)

def f_X6_lowest_L12 (F : Nat) (a1 : Int) (a2 : Int) (a3 : Int)  (σ : St) : Nat → Int → Int → Int → Option (Int)
  | 0, _, _, _ => none
  | n + 1, x3, x4, x5 =>
    z_gt 100 fun v6 =>
    if v6 ≤ x5 then (
      f_X6_lowest_J47 F a1 a2 a3 σ x4)
    else (
      z_gt 0 fun v13 =>
      z_gt (z_cmp x3 v13) fun v14 =>
      if v14 = 0 then (
        f_X6_lowest_J47 F a1 a2 a3 σ x4)
      else (
        z_nz x3 <| z_gt (x4.tmod x3) fun v15 =>
        z_ck (x5 + 1) fun v16 =>
        f_X6_lowest_L12 F a1 a2 a3 σ n v15 x3 v16))

def f_X6_lowest (F : Nat) (a1 : Int) (a2 : Int) (a3 : Int) (σ : St) : Option (Int) :=
  
  z_lk (if 0 < a1 then a1 else -a1) fun v1 =>
  z_gt 0 fun v2 =>
  f_X6_lowest_L12 F a1 a2 a3 σ F v1 a2 v2
theorem sb_X6_lowest : SB yX6_lowest cX6_lowest 12 (some .long) 3 := ⟨ks_X6_lowest, kn_X6, kc_X6_lowest, by decide +kernel, by decide +kernel, by decide +kernel⟩
set_option maxRecDepth 20000 in
set_option maxHeartbeats 4000000 in
theorem m_X6_lowest (l : Launch) (G : GG) (F : Nat) (a1 : Int64) (a2 : Int64) (a3 : Int32) (σ : St) : ∀ r, f_X6_lowest F a1.toInt a2.toInt a3.toInt σ = some r → MC G l yX6_lowest cX6_lowest 12 (some .long) { frames := 1, cells := 0, slots := 0, locals := 45 } [.long a1, .long a2, .int a3] σ (vL r) σ := by
  refine MC_of (own := RX6) (vL) (fun _ => σ) (by decide +kernel) rfl (Nat.le_of_ble_eq_true rfl) ?_
  intro p e s m args below meth c C hr hlo ls hl
  have hl : lv_has ls 12 [(0, .long a1), (2, .long a2), (4, .int a3)] := hl
  unfold f_X6_lowest
  have B47 : ∀  (x7 : Int64) (ls : Array Slot), lv_has ls 12 [(0, .long a1), (2, .long a2), (4, .int a3), (7, .long x7)] → Sim G (AG G) 0 0 p l e { frames := 1, cells := 0, slots := 0, locals := 45 } s m args below meth c (fun r : Int => MQ below (QC G (vL r) (σ)) args s 0 0 (AG G)) σ (f_X6_lowest_J47 F a1.toInt a2.toInt a3.toInt  σ  x7.toInt) (F0 m 47 ls []) := by
    intro x7 ls hl
    unfold f_X6_lowest_J47
    refine q_lload C dX6_lowest_47 (lv_at hl 3 rfl) ?_
    refine q_lconst C dX6_lowest_49 rfl (by decide) (fun v8 => ?_)
    refine q_lcmp C dX6_lowest_50 (fun v9 => ?_)
    refine q_if_ne C 56 dX6_lowest_51 (by decide) ?_ ?_
    · refine q_iload C dX6_lowest_56 (lv_at hl 2 rfl) ?_
      refine q_if_ne C 68 dX6_lowest_58 (by decide) ?_ ?_
      · refine q_lload_n C dX6_lowest_68 rfl (lv_at hl 1 rfl) ?_
        refine q_lload C dX6_lowest_69 (lv_at hl 3 rfl) ?_
        refine q_ldiv C dX6_lowest_71 (fun v10 => ?_)
        exact q_lret C hr hlo dX6_lowest_72
      · refine q_lload_n C dX6_lowest_61 rfl (lv_at hl 0 rfl) ?_
        refine q_lload C dX6_lowest_62 (lv_at hl 3 rfl) ?_
        refine q_ldiv C dX6_lowest_64 (fun v11 => ?_)
        refine q_goto C 72 dX6_lowest_65 (by decide) ?_
        exact q_lret C hr hlo dX6_lowest_72
    · refine q_lconst C dX6_lowest_54 rfl (by decide) (fun v12 => ?_)
      exact q_lret C hr hlo dX6_lowest_55
  have B12 : ∀ (n : Nat) (x3 : Int64) (x4 : Int64) (x5 : Int32) (ls : Array Slot), lv_has ls 12 [(0, .long a1), (2, .long a2), (4, .int a3), (5, .long x3), (7, .long x4), (9, .int x5)] → Sim G (AG G) 0 0 p l e { frames := 1, cells := 0, slots := 0, locals := 45 } s m args below meth c (fun r : Int => MQ below (QC G (vL r) (σ)) args s 0 0 (AG G)) σ (f_X6_lowest_L12 F a1.toInt a2.toInt a3.toInt  σ n x3.toInt x4.toInt x5.toInt) (F0 m 12 ls []) := by
    intro n
    induction n with
    | zero =>
      intro x3 x4 x5 ls hl
      exact sim_none
    | succ n ih =>
      intro x3 x4 x5 ls hl
      rw [f_X6_lowest_L12]
      refine q_iload C dX6_lowest_12 (lv_at hl 5 rfl) ?_
      refine q_bipush C dX6_lowest_14 rfl (by decide) (fun v6 => ?_)
      refine q_icmp_ge C 47 dX6_lowest_16 (by decide) ?_ ?_
      · exact B47 x4 ls (lv_sub hl [0, 1, 2, 4] rfl)
      · refine q_lload C dX6_lowest_19 (lv_at hl 3 rfl) ?_
        refine q_lconst C dX6_lowest_21 rfl (by decide) (fun v13 => ?_)
        refine q_lcmp C dX6_lowest_22 (fun v14 => ?_)
        refine q_if_eq C 47 dX6_lowest_23 (by decide) ?_ ?_
        · exact B47 x4 ls (lv_sub hl [0, 1, 2, 4] rfl)
        · refine q_lload C dX6_lowest_26 (lv_at hl 4 rfl) ?_
          refine q_lload C dX6_lowest_28 (lv_at hl 3 rfl) ?_
          refine q_lrem C dX6_lowest_30 (fun v15 => ?_)
          refine q_lstore C [(10, .long v15), (0, .long a1), (2, .long a2), (4, .int a3), (5, .long x3), (7, .long x4), (9, .int x5)] dX6_lowest_31 hl (by decide) rfl (fun ls hl => ?_)
          refine q_lload C dX6_lowest_33 (lv_at hl 4 rfl) ?_
          refine q_lstore C [(7, .long x3), (10, .long v15), (0, .long a1), (2, .long a2), (4, .int a3), (5, .long x3), (9, .int x5)] dX6_lowest_35 hl (by decide) rfl (fun ls hl => ?_)
          refine q_lload C dX6_lowest_37 (lv_at hl 1 rfl) ?_
          refine q_lstore C [(5, .long v15), (7, .long x3), (10, .long v15), (0, .long a1), (2, .long a2), (4, .int a3), (9, .int x5)] dX6_lowest_39 hl (by decide) rfl (fun ls hl => ?_)
          refine q_iinc (k := 6) C (fun v16 => [(9, .int v16), (5, .long v15), (7, .long x3), (10, .long v15), (0, .long a1), (2, .long a2), (4, .int a3)]) dX6_lowest_41 hl rfl (by decide) (by decide) (fun _ => rfl) (fun v16 ls hl => ?_)
          refine q_goto C 12 dX6_lowest_44 (by decide) ?_
          exact ih v15 x3 v16 ls (lv_sub hl [4, 5, 6, 1, 2, 0] rfl)
  refine q_lload_n C dX6_lowest_0 rfl (lv_at hl 0 rfl) ?_
  refine q_abs C kl_X6_423 ⟨Nat.le_of_ble_eq_true rfl, Nat.le_of_ble_eq_true rfl⟩ ⟨Nat.zero_le _, Nat.zero_le _⟩ hl.1 dX6_lowest_1 (fun v1 => ?_)
  refine q_lstore C [(5, .long v1), (0, .long a1), (2, .long a2), (4, .int a3)] dX6_lowest_4 hl (by decide) rfl (fun ls hl => ?_)
  refine q_lload_n C dX6_lowest_6 rfl (lv_at hl 2 rfl) ?_
  refine q_lstore C [(7, .long a2), (5, .long v1), (0, .long a1), (2, .long a2), (4, .int a3)] dX6_lowest_7 hl (by decide) rfl (fun ls hl => ?_)
  refine q_iconst C dX6_lowest_9 rfl (by decide) (fun v2 => ?_)
  refine q_istore C [(9, .int v2), (7, .long a2), (5, .long v1), (0, .long a1), (2, .long a2), (4, .int a3)] dX6_lowest_10 hl (by decide) rfl (fun ls hl => ?_)
  exact B12 F v1 a2 v2 ls (lv_sub hl [3, 4, 5, 2, 1, 0] rfl)
def f_X6_share_L69 (F : Nat) (k0 : Nat) (a1 : Int) (a2 : Int)   : Nat → Int → Int → Int → Int → Int → St → Option (Int × St)
  | 0, _, _, _, _, _, _ => none
  | n + 1, x16, x17, x18, x19, x20, σ =>
    z_gt 256 fun v21 =>
    if v21 ≤ x20 then (
      z_c1 (f_X6_factorial F x17 σ) fun v22 =>
      z_c1 (f_X6_lowest F x19 v22 a2 σ) fun v23 =>
      z_gt (z_l2i v23) fun v24 =>
      some (v24, σ))
    else (
      z_gt (-1) fun v25 =>
      z_gt (z_xor x16 v25) fun v26 =>
      z_gt (z_and x20 v26) fun v27 =>
      if ¬ v27 = 0 then (
        z_ck (x20 + 1) fun v28 =>
        f_X6_share_L69 F k0 a1 a2 n x16 x17 x18 x19 v28 σ)
      else (
        z_gt (z_and x20 x18) fun v29 =>
        if ¬ v29 = 0 then (
          z_ck (x20 + 1) fun v30 =>
          f_X6_share_L69 F k0 a1 a2 n x16 x17 x18 x19 v30 σ)
        else (
          z_c1 (f_J6_bitCount_0f7a4 F x20 σ) fun v31 =>
          z_c1 (f_X6_factorial F v31 σ) fun v32 =>
          z_gt 1 fun v33 =>
          z_ck (x17 - v33) fun v34 =>
          z_ck (v34 - v31) fun v35 =>
          z_c1 (f_X6_factorial F v35 σ) fun v36 =>
          z_lk (v32 * v36) fun v37 =>
          z_gt (z_or x20 x18) fun v38 =>
          z_ix v38 256 <| z_gt (σ (k0 + 212) v38) fun v39 =>
          z_ix x20 256 <| z_gt (σ (k0 + 212) x20) fun v40 =>
          z_ck (v39 - v40) fun v41 =>
          z_gt v41 fun v42 =>
          z_lk (v37 * v42) fun v43 =>
          z_lk (x19 + v43) fun v44 =>
          z_ck (x20 + 1) fun v45 =>
          f_X6_share_L69 F k0 a1 a2 n x16 x17 x18 v44 v45 σ)))

def f_X6_share (F : Nat) (k0 : Nat) (a1 : Int) (a2 : Int) (σ : St) : Option (Int × St) :=
  z_ob 6 k0 <| 
  if a1 < 0 then (
    z_gt (-1000) fun v1 =>
    some (v1, σ))
  else (
    z_gt 8 fun v2 =>
    if v2 ≤ a1 then (
      z_gt (-1000) fun v3 =>
      some (v3, σ))
    else (
      z_c1 (f_X6_isTold F k0 a1 σ) fun v4 =>
      if v4 = 0 then (
        z_gt (-1000) fun v5 =>
        some (v5, σ))
      else (
        z_c1 (f_X4_isCommand F (k0 + 4) a1 σ) fun v6 =>
        if v6 = 0 then (
          z_gt (-1000) fun v7 =>
          some (v7, σ))
        else (
          if a2 < 0 then (
            z_gt (-1000) fun v8 =>
            some (v8, σ))
          else (
            z_gt 1 fun v9 =>
            if a2 ≤ v9 then (
              z_c1 (f_X6_players F k0 σ) fun v10 =>
              z_c1 (f_X6_fillWorths F k0 v10 σ) fun σ1 =>
              z_c1 (f_J6_bitCount_0f7a4 F v10 σ1) fun v11 =>
              z_gt 1 fun v12 =>
              z_gt (z_shl v12 a1) fun v13 =>
              z_gt 0 fun v14 =>
              z_gt 0 fun v15 =>
              f_X6_share_L69 F k0 a1 a2 F v10 v11 v13 v14 v15 σ1)
            else (
              z_gt (-1000) fun v46 =>
              some (v46, σ)))))))
theorem cb_X6_share : CB yX6_share cX6_share 10 (some .int) 2 := ⟨ki_X6_share, kq_X6_share, kn_X6, kc_X6_share, by decide +kernel, by decide +kernel, by decide +kernel⟩
set_option maxRecDepth 20000 in
set_option maxHeartbeats 4000000 in
theorem m_X6_share (l : Launch) (G : GG) (F : Nat) (k0 : Nat) (a1 : Int32) (a2 : Int32) (σ : St) : ∀ r, f_X6_share F k0 a1.toInt a2.toInt σ = some r → MC G l yX6_share cX6_share 10 (some .int) { frames := 5, cells := 0, slots := 0, locals := 135 } [.ref (gad G k0), .int a1, .int a2] σ (vI r.1) r.2 := by
  refine MC_of (own := RX6) (fun r : Int × St => vI r.1) (fun r : Int × St => r.2) (by decide +kernel) rfl (Nat.le_of_ble_eq_true rfl) ?_
  intro p e s m args below meth c C hr hlo ls hl
  have hl : lv_has ls 10 [(0, .ref (gad G k0)), (1, .int a1), (2, .int a2)] := hl
  unfold f_X6_share
  refine q_ob (fun hk0 => ?_)
  have B69 : ∀ (n : Nat) (x16 : Int32) (x17 : Int32) (x18 : Int32) (x19 : Int64) (x20 : Int32) (σ : St) (ls : Array Slot), lv_has ls 10 [(0, .ref (gad G k0)), (2, .int a2), (3, .int x16), (4, .int x17), (5, .int x18), (6, .long x19), (8, .int x20)] → Sim G (AG G) 0 0 p l e { frames := 5, cells := 0, slots := 0, locals := 135 } s m args below meth c (fun r : Int × St => MQ below (QC G (vI r.1) (r.2)) args s 0 0 (AG G)) σ (f_X6_share_L69 F k0 a1.toInt a2.toInt   n x16.toInt x17.toInt x18.toInt x19.toInt x20.toInt σ) (F0 m 69 ls []) := by
    intro n
    induction n with
    | zero =>
      intro x16 x17 x18 x19 x20 σ ls hl
      exact sim_none
    | succ n ih =>
      intro x16 x17 x18 x19 x20 σ ls hl
      rw [f_X6_share_L69]
      refine q_iload C dX6_share_69 (lv_at hl 6 rfl) ?_
      refine q_sipush C dX6_share_71 rfl (by decide) (fun v21 => ?_)
      refine q_icmp_ge C 148 dX6_share_74 (by decide) ?_ ?_
      · refine q_lload C dX6_share_148 (lv_at hl 5 rfl) ?_
        refine q_iload C dX6_share_150 (lv_at hl 3 rfl) ?_
        refine q_c1l C (fun r h => cr_S (As := [.int x17]) (rest := [.long x19]) C (m_X6_factorial l G F x17 σ r h) sb_X6_factorial kl_X6_315 ⟨Nat.le_of_ble_eq_true rfl, Nat.le_of_ble_eq_true rfl⟩ ⟨Nat.zero_le _, Nat.zero_le _⟩ hl.1 rfl (Nat.le_of_ble_eq_true rfl) dX6_share_152 rfl) (fun v22 => ?_)
        refine q_iload_n C dX6_share_155 rfl (lv_at hl 1 rfl) ?_
        refine q_c1l C (fun r h => cr_S (As := [.long x19, .long v22, .int a2]) (rest := []) C (m_X6_lowest l G F x19 v22 a2 σ r h) sb_X6_lowest kl_X6_318 ⟨Nat.le_of_ble_eq_true rfl, Nat.le_of_ble_eq_true rfl⟩ ⟨Nat.zero_le _, Nat.zero_le _⟩ hl.1 rfl (Nat.le_of_ble_eq_true rfl) dX6_share_156 rfl) (fun v23 => ?_)
        refine q_l2i C dX6_share_159 (fun v24 => ?_)
        exact q_iretE C hr hlo dX6_share_160
      · refine q_iload C dX6_share_77 (lv_at hl 6 rfl) ?_
        refine q_iload_n C dX6_share_79 rfl (lv_at hl 2 rfl) ?_
        refine q_iconst C dX6_share_80 rfl (by decide) (fun v25 => ?_)
        refine q_ixor C dX6_share_81 (fun v26 => ?_)
        refine q_iand C dX6_share_82 (fun v27 => ?_)
        refine q_if_ne C 142 dX6_share_83 (by decide) ?_ ?_
        · refine q_iinc (k := 6) C (fun v28 => [(8, .int v28), (0, .ref (gad G k0)), (2, .int a2), (3, .int x16), (4, .int x17), (5, .int x18), (6, .long x19)]) dX6_share_142 hl rfl (by decide) (by decide) (fun _ => rfl) (fun v28 ls hl => ?_)
          refine q_goto C 69 dX6_share_145 (by decide) ?_
          exact ih x16 x17 x18 x19 v28 σ ls (lv_sub hl [1, 2, 3, 4, 5, 6, 0] rfl)
        · refine q_iload C dX6_share_86 (lv_at hl 6 rfl) ?_
          refine q_iload C dX6_share_88 (lv_at hl 4 rfl) ?_
          refine q_iand C dX6_share_90 (fun v29 => ?_)
          refine q_if_ne C 142 dX6_share_91 (by decide) ?_ ?_
          · refine q_iinc (k := 6) C (fun v30 => [(8, .int v30), (0, .ref (gad G k0)), (2, .int a2), (3, .int x16), (4, .int x17), (5, .int x18), (6, .long x19)]) dX6_share_142 hl rfl (by decide) (by decide) (fun _ => rfl) (fun v30 ls hl => ?_)
            refine q_goto C 69 dX6_share_145 (by decide) ?_
            exact ih x16 x17 x18 x19 v30 σ ls (lv_sub hl [1, 2, 3, 4, 5, 6, 0] rfl)
          · refine q_iload C dX6_share_94 (lv_at hl 6 rfl) ?_
            refine q_c1i C (fun r h => cr_S (As := [.int x20]) (rest := []) C (m_J6_bitCount_0f7a4 l G F x20 σ r h) sb_J6_bitCount_0f7a4 kl_X6_132 ⟨Nat.le_of_ble_eq_true rfl, Nat.le_of_ble_eq_true rfl⟩ ⟨Nat.zero_le _, Nat.zero_le _⟩ hl.1 rfl (Nat.le_of_ble_eq_true rfl) dX6_share_96 rfl) (fun v31 => ?_)
            refine q_istore C [(9, .int v31), (0, .ref (gad G k0)), (2, .int a2), (3, .int x16), (4, .int x17), (5, .int x18), (6, .long x19), (8, .int x20)] dX6_share_99 hl (by decide) rfl (fun ls hl => ?_)
            refine q_lload C dX6_share_101 (lv_at hl 6 rfl) ?_
            refine q_iload C dX6_share_103 (lv_at hl 0 rfl) ?_
            refine q_c1l C (fun r h => cr_S (As := [.int v31]) (rest := [.long x19]) C (m_X6_factorial l G F v31 σ r h) sb_X6_factorial kl_X6_315 ⟨Nat.le_of_ble_eq_true rfl, Nat.le_of_ble_eq_true rfl⟩ ⟨Nat.zero_le _, Nat.zero_le _⟩ hl.1 rfl (Nat.le_of_ble_eq_true rfl) dX6_share_105 rfl) (fun v32 => ?_)
            refine q_iload C dX6_share_108 (lv_at hl 4 rfl) ?_
            refine q_iconst C dX6_share_110 rfl (by decide) (fun v33 => ?_)
            refine q_isub C dX6_share_111 (fun v34 => ?_)
            refine q_iload C dX6_share_112 (lv_at hl 0 rfl) ?_
            refine q_isub C dX6_share_114 (fun v35 => ?_)
            refine q_c1l C (fun r h => cr_S (As := [.int v35]) (rest := [.long v32, .long x19]) C (m_X6_factorial l G F v35 σ r h) sb_X6_factorial kl_X6_315 ⟨Nat.le_of_ble_eq_true rfl, Nat.le_of_ble_eq_true rfl⟩ ⟨Nat.zero_le _, Nat.zero_le _⟩ hl.1 rfl (Nat.le_of_ble_eq_true rfl) dX6_share_115 rfl) (fun v36 => ?_)
            refine q_lmul C dX6_share_118 (fun v37 => ?_)
            refine q_aload_n C dX6_share_119 rfl (lv_at hl 1 rfl) ?_
            refine g_6_9 C hk0 kf_X6_56 dX6_share_120 ?_
            refine q_iload C dX6_share_123 (lv_at hl 7 rfl) ?_
            refine q_iload C dX6_share_125 (lv_at hl 5 rfl) ?_
            refine q_ior C dX6_share_127 (fun v38 => ?_)
            refine a_ild C (yk_6_9 hk0) (yl_6_9 hk0) dX6_share_128 (fun v39 => ?_)
            refine q_aload_n C dX6_share_129 rfl (lv_at hl 1 rfl) ?_
            refine g_6_9 C hk0 kf_X6_56 dX6_share_130 ?_
            refine q_iload C dX6_share_133 (lv_at hl 7 rfl) ?_
            refine a_ild C (yk_6_9 hk0) (yl_6_9 hk0) dX6_share_135 (fun v40 => ?_)
            refine q_isub C dX6_share_136 (fun v41 => ?_)
            refine q_i2l C dX6_share_137 (fun v42 => ?_)
            refine q_lmul C dX6_share_138 (fun v43 => ?_)
            refine q_ladd C dX6_share_139 (fun v44 => ?_)
            refine q_lstore C [(6, .long v44), (9, .int v31), (0, .ref (gad G k0)), (2, .int a2), (3, .int x16), (4, .int x17), (5, .int x18), (8, .int x20)] dX6_share_140 hl (by decide) rfl (fun ls hl => ?_)
            refine q_iinc (k := 7) C (fun v45 => [(8, .int v45), (6, .long v44), (9, .int v31), (0, .ref (gad G k0)), (2, .int a2), (3, .int x16), (4, .int x17), (5, .int x18)]) dX6_share_142 hl rfl (by decide) (by decide) (fun _ => rfl) (fun v45 ls hl => ?_)
            refine q_goto C 69 dX6_share_145 (by decide) ?_
            exact ih x16 x17 x18 v44 v45 σ ls (lv_sub hl [3, 4, 5, 6, 7, 1, 0] rfl)
  refine q_iload_n C dX6_share_0 rfl (lv_at hl 1 rfl) ?_
  refine q_if_lt C 38 dX6_share_1 (by decide) ?_ ?_
  · refine q_sipush C dX6_share_38 rfl (by decide) (fun v1 => ?_)
    exact q_iretE C hr hlo dX6_share_41
  · refine q_iload_n C dX6_share_4 rfl (lv_at hl 1 rfl) ?_
    refine q_bipush C dX6_share_5 rfl (by decide) (fun v2 => ?_)
    refine q_icmp_ge C 38 dX6_share_7 (by decide) ?_ ?_
    · refine q_sipush C dX6_share_38 rfl (by decide) (fun v3 => ?_)
      exact q_iretE C hr hlo dX6_share_41
    · refine q_aload_n C dX6_share_10 rfl (lv_at hl 0 rfl) ?_
      refine q_iload_n C dX6_share_11 rfl (lv_at hl 1 rfl) ?_
      refine q_c1i C (fun r h => cr_V (As := [.int a1]) (rest := []) C (m_X6_isTold l G F k0 a1 σ r h) cb_X6_isTold hk0 (by decide) rfl (cf_6 hk0 _) rfl kl_X6_309 ⟨Nat.le_of_ble_eq_true rfl, Nat.le_of_ble_eq_true rfl⟩ ⟨Nat.zero_le _, Nat.zero_le _⟩ hl.1 rfl (Nat.le_of_ble_eq_true rfl) dX6_share_12 rfl) (fun v4 => ?_)
      refine q_if_eq C 38 dX6_share_15 (by decide) ?_ ?_
      · refine q_sipush C dX6_share_38 rfl (by decide) (fun v5 => ?_)
        exact q_iretE C hr hlo dX6_share_41
      · refine q_aload_n C dX6_share_18 rfl (lv_at hl 0 rfl) ?_
        refine g_6_1 C hk0 kf_X6_19 dX6_share_19 ?_
        refine q_iload_n C dX6_share_22 rfl (lv_at hl 1 rfl) ?_
        refine q_c1i C (fun r h => cr_V (As := [.int a1]) (rest := []) C (m_X4_isCommand l G F (k0 + 4) a1 σ r h) cb_X4_isCommand (yk_6_1 hk0) (by decide) rfl (cf_4 (yk_6_1 hk0) _) rfl kl_X6_220 ⟨Nat.le_of_ble_eq_true rfl, Nat.le_of_ble_eq_true rfl⟩ ⟨Nat.zero_le _, Nat.zero_le _⟩ hl.1 rfl (Nat.le_of_ble_eq_true rfl) dX6_share_23 rfl) (fun v6 => ?_)
        refine q_if_eq C 38 dX6_share_26 (by decide) ?_ ?_
        · refine q_sipush C dX6_share_38 rfl (by decide) (fun v7 => ?_)
          exact q_iretE C hr hlo dX6_share_41
        · refine q_iload_n C dX6_share_29 rfl (lv_at hl 2 rfl) ?_
          refine q_if_lt C 38 dX6_share_30 (by decide) ?_ ?_
          · refine q_sipush C dX6_share_38 rfl (by decide) (fun v8 => ?_)
            exact q_iretE C hr hlo dX6_share_41
          · refine q_iload_n C dX6_share_33 rfl (lv_at hl 2 rfl) ?_
            refine q_iconst C dX6_share_34 rfl (by decide) (fun v9 => ?_)
            refine q_icmp_le C 42 dX6_share_35 (by decide) ?_ ?_
            · refine q_aload_n C dX6_share_42 rfl (lv_at hl 0 rfl) ?_
              refine q_c1i C (fun r h => cr_V (As := []) (rest := []) C (m_X6_players l G F k0 σ r h) cb_X6_players hk0 (by decide) rfl (cf_6 hk0 _) rfl kl_X6_303 ⟨Nat.le_of_ble_eq_true rfl, Nat.le_of_ble_eq_true rfl⟩ ⟨Nat.zero_le _, Nat.zero_le _⟩ hl.1 rfl (Nat.le_of_ble_eq_true rfl) dX6_share_43 rfl) (fun v10 => ?_)
              refine q_istore_n C [(3, .int v10), (0, .ref (gad G k0)), (1, .int a1), (2, .int a2)] dX6_share_46 rfl hl (by decide) rfl (fun ls hl => ?_)
              refine q_aload_n C dX6_share_47 rfl (lv_at hl 1 rfl) ?_
              refine q_iload_n C dX6_share_48 rfl (lv_at hl 0 rfl) ?_
              refine q_cv C (fun r h => cr_V (As := [.int v10]) (rest := []) C (m_X6_fillWorths l G F k0 v10 σ r h) cb_X6_fillWorths hk0 (by decide) rfl (cf_6 hk0 _) rfl kl_X6_312 ⟨Nat.le_of_ble_eq_true rfl, Nat.le_of_ble_eq_true rfl⟩ ⟨Nat.zero_le _, Nat.zero_le _⟩ hl.1 rfl (Nat.le_of_ble_eq_true rfl) dX6_share_49 rfl) (fun σ1 => ?_)
              refine q_iload_n C dX6_share_52 rfl (lv_at hl 0 rfl) ?_
              refine q_c1i C (fun r h => cr_S (As := [.int v10]) (rest := []) C (m_J6_bitCount_0f7a4 l G F v10 σ1 r h) sb_J6_bitCount_0f7a4 kl_X6_132 ⟨Nat.le_of_ble_eq_true rfl, Nat.le_of_ble_eq_true rfl⟩ ⟨Nat.zero_le _, Nat.zero_le _⟩ hl.1 rfl (Nat.le_of_ble_eq_true rfl) dX6_share_53 rfl) (fun v11 => ?_)
              refine q_istore C [(4, .int v11), (3, .int v10), (0, .ref (gad G k0)), (1, .int a1), (2, .int a2)] dX6_share_56 hl (by decide) rfl (fun ls hl => ?_)
              refine q_iconst C dX6_share_58 rfl (by decide) (fun v12 => ?_)
              refine q_iload_n C dX6_share_59 rfl (lv_at hl 3 rfl) ?_
              refine q_ishl C dX6_share_60 (fun v13 => ?_)
              refine q_istore C [(5, .int v13), (4, .int v11), (3, .int v10), (0, .ref (gad G k0)), (1, .int a1), (2, .int a2)] dX6_share_61 hl (by decide) rfl (fun ls hl => ?_)
              refine q_lconst C dX6_share_63 rfl (by decide) (fun v14 => ?_)
              refine q_lstore C [(6, .long v14), (5, .int v13), (4, .int v11), (3, .int v10), (0, .ref (gad G k0)), (1, .int a1), (2, .int a2)] dX6_share_64 hl (by decide) rfl (fun ls hl => ?_)
              refine q_iconst C dX6_share_66 rfl (by decide) (fun v15 => ?_)
              refine q_istore C [(8, .int v15), (6, .long v14), (5, .int v13), (4, .int v11), (3, .int v10), (0, .ref (gad G k0)), (1, .int a1), (2, .int a2)] dX6_share_67 hl (by decide) rfl (fun ls hl => ?_)
              exact B69 F v10 v11 v13 v14 v15 σ1 ls (lv_sub hl [5, 7, 4, 3, 2, 1, 0] rfl)
            · refine q_sipush C dX6_share_38 rfl (by decide) (fun v46 => ?_)
              exact q_iretE C hr hlo dX6_share_41
def f_X6_wholeWithout (F : Nat) (k0 : Nat) (a1 : Int) (a2 : Int) (a3 : Int) (a4 : Int) (σ : St) : Option (Int × St) :=
  z_ob 6 k0 <| 
  z_gt (σ (k0 + 4) 1) fun v1 =>
  z_gt a3 fun v2 =>
  z_gt (z_lshl v2 a1) fun v3 =>
  z_gt a4 fun v4 =>
  z_gt (z_lshl v4 a2) fun v5 =>
  z_gt (z_lor v3 v5) fun v6 =>
  z_c1 (f_X3_play F (k0 + 110) (k0 + 4) v1 v6 σ) fun σ1 =>
  z_gt 1 fun v7 =>
  z_c1 (f_X3_sizes F (k0 + 110) v7 σ1) fun v8 =>
  some (v8, σ1)
theorem cb_X6_wholeWithout : CB yX6_wholeWithout cX6_wholeWithout 5 (some .int) 4 := ⟨ki_X6_wholeWithout, kq_X6_wholeWithout, kn_X6, kc_X6_wholeWithout, by decide +kernel, by decide +kernel, by decide +kernel⟩
set_option maxRecDepth 20000 in
set_option maxHeartbeats 4000000 in
theorem m_X6_wholeWithout (l : Launch) (G : GG) (F : Nat) (k0 : Nat) (a1 : Int32) (a2 : Int32) (a3 : Int32) (a4 : Int32) (σ : St) : ∀ r, f_X6_wholeWithout F k0 a1.toInt a2.toInt a3.toInt a4.toInt σ = some r → MC G l yX6_wholeWithout cX6_wholeWithout 5 (some .int) { frames := 5, cells := 0, slots := 0, locals := 137 } [.ref (gad G k0), .int a1, .int a2, .int a3, .int a4] σ (vI r.1) r.2 := by
  refine MC_of (own := RX6) (fun r : Int × St => vI r.1) (fun r : Int × St => r.2) (by decide +kernel) rfl (Nat.le_of_ble_eq_true rfl) ?_
  intro p e s m args below meth c C hr hlo ls hl
  have hl : lv_has ls 5 [(0, .ref (gad G k0)), (1, .int a1), (2, .int a2), (3, .int a3), (4, .int a4)] := hl
  unfold f_X6_wholeWithout
  refine q_ob (fun hk0 => ?_)
  refine q_aload_n C dX6_wholeWithout_0 rfl (lv_at hl 0 rfl) ?_
  refine g_6_6 C hk0 kf_X6_43 dX6_wholeWithout_1 ?_
  refine q_aload_n C dX6_wholeWithout_4 rfl (lv_at hl 0 rfl) ?_
  refine g_6_1 C hk0 kf_X6_19 dX6_wholeWithout_5 ?_
  refine q_aload_n C dX6_wholeWithout_8 rfl (lv_at hl 0 rfl) ?_
  refine g_6_1 C hk0 kf_X6_19 dX6_wholeWithout_9 ?_
  refine g_4_1 C (yk_6_1 hk0) kf_X6_326 dX6_wholeWithout_12 (fun v1 => ?_)
  refine q_iload_n C dX6_wholeWithout_15 rfl (lv_at hl 3 rfl) ?_
  refine q_i2l C dX6_wholeWithout_16 (fun v2 => ?_)
  refine q_iload_n C dX6_wholeWithout_17 rfl (lv_at hl 1 rfl) ?_
  refine q_lshl C dX6_wholeWithout_18 (fun v3 => ?_)
  refine q_iload C dX6_wholeWithout_19 (lv_at hl 4 rfl) ?_
  refine q_i2l C dX6_wholeWithout_21 (fun v4 => ?_)
  refine q_iload_n C dX6_wholeWithout_22 rfl (lv_at hl 2 rfl) ?_
  refine q_lshl C dX6_wholeWithout_23 (fun v5 => ?_)
  refine q_lor C dX6_wholeWithout_24 (fun v6 => ?_)
  refine q_cv C (fun r h => cr_V (As := [.ref (gad G (k0 + 4)), .int v1, .long v6]) (rest := []) C (m_X3_play l G F (k0 + 110) (k0 + 4) v1 v6 σ r h) cb_X3_play (yk_6_6 hk0) (by decide) rfl (cf_3 (yk_6_6 hk0) _) rfl kl_X6_299 ⟨Nat.le_of_ble_eq_true rfl, Nat.le_of_ble_eq_true rfl⟩ ⟨Nat.zero_le _, Nat.zero_le _⟩ hl.1 rfl (Nat.le_of_ble_eq_true rfl) dX6_wholeWithout_25 rfl) (fun σ1 => ?_)
  refine q_aload_n C dX6_wholeWithout_28 rfl (lv_at hl 0 rfl) ?_
  refine g_6_6 C hk0 kf_X6_43 dX6_wholeWithout_29 ?_
  refine q_iconst C dX6_wholeWithout_32 rfl (by decide) (fun v7 => ?_)
  refine q_c1i C (fun r h => cr_V (As := [.int v7]) (rest := []) C (m_X3_sizes l G F (k0 + 110) v7 σ1 r h) cb_X3_sizes (yk_6_6 hk0) (by decide) rfl (cf_3 (yk_6_6 hk0) _) rfl kl_X6_208 ⟨Nat.le_of_ble_eq_true rfl, Nat.le_of_ble_eq_true rfl⟩ ⟨Nat.zero_le _, Nat.zero_le _⟩ hl.1 rfl (Nat.le_of_ble_eq_true rfl) dX6_wholeWithout_33 rfl) (fun v8 => ?_)
  exact q_iretE C hr hlo dX6_wholeWithout_36
def f_X6_rests_L60 (F : Nat) (k0 : Nat) (a1 : Int) (a2 : Int)   : Nat → Int → Int → St → Option (Int × St)
  | 0, _, _, _ => none
  | n + 1, x10, x11, σ =>
    z_gt 4 fun v12 =>
    if v12 ≤ x11 then (
      some (x10, σ))
    else (
      z_gt 1 fun v13 =>
      z_gt (z_and x11 v13) fun v14 =>
      z_gt 1 fun v15 =>
      z_gt (z_shr x11 v15) fun v16 =>
      z_gt 1 fun v17 =>
      z_gt (z_xor x11 v17) fun v18 =>
      z_ix v18 4 <| z_gt (σ (k0 + 213) v18) fun v19 =>
      z_ix x11 4 <| z_gt (σ (k0 + 213) x11) fun v20 =>
      z_ck (v19 - v20) fun v21 =>
      z_gt 3 fun v22 =>
      z_gt 1 fun v23 =>
      z_gt 2 fun v24 =>
      z_ck (v24 * v14) fun v25 =>
      z_ck (v23 - v25) fun v26 =>
      z_ck (v22 * v26) fun v27 =>
      z_ck (v21 - v27) fun v28 =>
      z_gt 2 fun v29 =>
      z_gt (z_xor x11 v29) fun v30 =>
      z_ix v30 4 <| z_gt (σ (k0 + 213) v30) fun v31 =>
      z_ix x11 4 <| z_gt (σ (k0 + 213) x11) fun v32 =>
      z_ck (v31 - v32) fun v33 =>
      z_gt 3 fun v34 =>
      z_gt 1 fun v35 =>
      z_gt 2 fun v36 =>
      z_ck (v36 * v16) fun v37 =>
      z_ck (v35 - v37) fun v38 =>
      z_ck (v34 * v38) fun v39 =>
      z_ck (v33 - v39) fun v40 =>
      if 0 < v28 then (
        z_ck (x11 + 1) fun v41 =>
        f_X6_rests_L60 F k0 a1 a2 n x10 v41 σ)
      else (
        if 0 < v40 then (
          z_ck (x11 + 1) fun v42 =>
          f_X6_rests_L60 F k0 a1 a2 n x10 v42 σ)
        else (
          z_gt 1 fun v43 =>
          z_gt (z_shl v43 x11) fun v44 =>
          z_gt (z_or x10 v44) fun v45 =>
          z_ck (x11 + 1) fun v46 =>
          f_X6_rests_L60 F k0 a1 a2 n v45 v46 σ)))

def f_X6_rests_L26 (F : Nat) (k0 : Nat) (a1 : Int) (a2 : Int)   : Nat → Int → St → Option (Int × St)
  | 0, _, _ => none
  | n + 1, x6, σ =>
    z_gt 4 fun v7 =>
    if v7 ≤ x6 then (
      z_gt 0 fun v8 =>
      z_gt 0 fun v9 =>
      f_X6_rests_L60 F k0 a1 a2 F v8 v9 σ)
    else (
      z_gt 1 fun v47 =>
      z_gt (z_and x6 v47) fun v48 =>
      z_gt 1 fun v49 =>
      z_gt (z_shr x6 v49) fun v50 =>
      z_c2 (f_X6_wholeWithout F k0 a1 a2 v48 v50 σ) fun v51 σ1 =>
      z_ix x6 4 <| z_sg (z_up σ1 (k0 + 213) x6 v51) fun σ2 =>
      z_ck (x6 + 1) fun v52 =>
      f_X6_rests_L26 F k0 a1 a2 n v52 σ2)

def f_X6_rests (F : Nat) (k0 : Nat) (a1 : Int) (a2 : Int) (σ : St) : Option (Int × St) :=
  z_ob 6 k0 <| 
  z_c1 (f_X6_isTold F k0 a1 σ) fun v1 =>
  if v1 = 0 then (
    z_gt (-2) fun v2 =>
    some (v2, σ))
  else (
    z_c1 (f_X6_isTold F k0 a2 σ) fun v3 =>
    if v3 = 0 then (
      z_gt (-2) fun v4 =>
      some (v4, σ))
    else (
      if ¬ a1 = a2 then (
        z_gt 0 fun v5 =>
        f_X6_rests_L26 F k0 a1 a2 F v5 σ)
      else (
        z_gt (-2) fun v53 =>
        some (v53, σ))))
theorem cb_X6_rests : CB yX6_rests cX6_rests 9 (some .int) 2 := ⟨ki_X6_rests, kq_X6_rests, kn_X6, kc_X6_rests, by decide +kernel, by decide +kernel, by decide +kernel⟩
set_option maxRecDepth 20000 in
set_option maxHeartbeats 4000000 in
theorem m_X6_rests (l : Launch) (G : GG) (F : Nat) (k0 : Nat) (a1 : Int32) (a2 : Int32) (σ : St) : ∀ r, f_X6_rests F k0 a1.toInt a2.toInt σ = some r → MC G l yX6_rests cX6_rests 9 (some .int) { frames := 6, cells := 0, slots := 0, locals := 161 } [.ref (gad G k0), .int a1, .int a2] σ (vI r.1) r.2 := by
  refine MC_of (own := RX6) (fun r : Int × St => vI r.1) (fun r : Int × St => r.2) (by decide +kernel) rfl (Nat.le_of_ble_eq_true rfl) ?_
  intro p e s m args below meth c C hr hlo ls hl
  have hl : lv_has ls 9 [(0, .ref (gad G k0)), (1, .int a1), (2, .int a2)] := hl
  unfold f_X6_rests
  refine q_ob (fun hk0 => ?_)
  have B60 : ∀ (n : Nat) (x10 : Int32) (x11 : Int32) (σ : St) (ls : Array Slot), lv_has ls 9 [(0, .ref (gad G k0)), (3, .int x10), (4, .int x11)] → Sim G (AG G) 0 0 p l e { frames := 6, cells := 0, slots := 0, locals := 161 } s m args below meth c (fun r : Int × St => MQ below (QC G (vI r.1) (r.2)) args s 0 0 (AG G)) σ (f_X6_rests_L60 F k0 a1.toInt a2.toInt   n x10.toInt x11.toInt σ) (F0 m 60 ls []) := by
    intro n
    induction n with
    | zero =>
      intro x10 x11 σ ls hl
      exact sim_none
    | succ n ih =>
      intro x10 x11 σ ls hl
      rw [f_X6_rests_L60]
      refine q_iload C dX6_rests_60 (lv_at hl 2 rfl) ?_
      refine q_iconst C dX6_rests_62 rfl (by decide) (fun v12 => ?_)
      refine q_icmp_ge C 157 dX6_rests_63 (by decide) ?_ ?_
      · refine q_iload_n C dX6_rests_157 rfl (lv_at hl 1 rfl) ?_
        exact q_iretE C hr hlo dX6_rests_158
      · refine q_iload C dX6_rests_66 (lv_at hl 2 rfl) ?_
        refine q_iconst C dX6_rests_68 rfl (by decide) (fun v13 => ?_)
        refine q_iand C dX6_rests_69 (fun v14 => ?_)
        refine q_istore C [(5, .int v14), (0, .ref (gad G k0)), (3, .int x10), (4, .int x11)] dX6_rests_70 hl (by decide) rfl (fun ls hl => ?_)
        refine q_iload C dX6_rests_72 (lv_at hl 3 rfl) ?_
        refine q_iconst C dX6_rests_74 rfl (by decide) (fun v15 => ?_)
        refine q_ishr C dX6_rests_75 (fun v16 => ?_)
        refine q_istore C [(6, .int v16), (5, .int v14), (0, .ref (gad G k0)), (3, .int x10), (4, .int x11)] dX6_rests_76 hl (by decide) rfl (fun ls hl => ?_)
        refine q_aload_n C dX6_rests_78 rfl (lv_at hl 2 rfl) ?_
        refine g_6_10 C hk0 kf_X6_60 dX6_rests_79 ?_
        refine q_iload C dX6_rests_82 (lv_at hl 4 rfl) ?_
        refine q_iconst C dX6_rests_84 rfl (by decide) (fun v17 => ?_)
        refine q_ixor C dX6_rests_85 (fun v18 => ?_)
        refine a_ild C (yk_6_10 hk0) (yl_6_10 hk0) dX6_rests_86 (fun v19 => ?_)
        refine q_aload_n C dX6_rests_87 rfl (lv_at hl 2 rfl) ?_
        refine g_6_10 C hk0 kf_X6_60 dX6_rests_88 ?_
        refine q_iload C dX6_rests_91 (lv_at hl 4 rfl) ?_
        refine a_ild C (yk_6_10 hk0) (yl_6_10 hk0) dX6_rests_93 (fun v20 => ?_)
        refine q_isub C dX6_rests_94 (fun v21 => ?_)
        refine q_iconst C dX6_rests_95 rfl (by decide) (fun v22 => ?_)
        refine q_iconst C dX6_rests_96 rfl (by decide) (fun v23 => ?_)
        refine q_iconst C dX6_rests_97 rfl (by decide) (fun v24 => ?_)
        refine q_iload C dX6_rests_98 (lv_at hl 1 rfl) ?_
        refine q_imul C dX6_rests_100 (fun v25 => ?_)
        refine q_isub C dX6_rests_101 (fun v26 => ?_)
        refine q_imul C dX6_rests_102 (fun v27 => ?_)
        refine q_isub C dX6_rests_103 (fun v28 => ?_)
        refine q_istore C [(7, .int v28), (6, .int v16), (5, .int v14), (0, .ref (gad G k0)), (3, .int x10), (4, .int x11)] dX6_rests_104 hl (by decide) rfl (fun ls hl => ?_)
        refine q_aload_n C dX6_rests_106 rfl (lv_at hl 3 rfl) ?_
        refine g_6_10 C hk0 kf_X6_60 dX6_rests_107 ?_
        refine q_iload C dX6_rests_110 (lv_at hl 5 rfl) ?_
        refine q_iconst C dX6_rests_112 rfl (by decide) (fun v29 => ?_)
        refine q_ixor C dX6_rests_113 (fun v30 => ?_)
        refine a_ild C (yk_6_10 hk0) (yl_6_10 hk0) dX6_rests_114 (fun v31 => ?_)
        refine q_aload_n C dX6_rests_115 rfl (lv_at hl 3 rfl) ?_
        refine g_6_10 C hk0 kf_X6_60 dX6_rests_116 ?_
        refine q_iload C dX6_rests_119 (lv_at hl 5 rfl) ?_
        refine a_ild C (yk_6_10 hk0) (yl_6_10 hk0) dX6_rests_121 (fun v32 => ?_)
        refine q_isub C dX6_rests_122 (fun v33 => ?_)
        refine q_iconst C dX6_rests_123 rfl (by decide) (fun v34 => ?_)
        refine q_iconst C dX6_rests_124 rfl (by decide) (fun v35 => ?_)
        refine q_iconst C dX6_rests_125 rfl (by decide) (fun v36 => ?_)
        refine q_iload C dX6_rests_126 (lv_at hl 1 rfl) ?_
        refine q_imul C dX6_rests_128 (fun v37 => ?_)
        refine q_isub C dX6_rests_129 (fun v38 => ?_)
        refine q_imul C dX6_rests_130 (fun v39 => ?_)
        refine q_isub C dX6_rests_131 (fun v40 => ?_)
        refine q_istore C [(8, .int v40), (7, .int v28), (6, .int v16), (5, .int v14), (0, .ref (gad G k0)), (3, .int x10), (4, .int x11)] dX6_rests_132 hl (by decide) rfl (fun ls hl => ?_)
        refine q_iload C dX6_rests_134 (lv_at hl 1 rfl) ?_
        refine q_if_gt C 151 dX6_rests_136 (by decide) ?_ ?_
        · refine q_iinc (k := 6) C (fun v41 => [(4, .int v41), (8, .int v40), (7, .int v28), (6, .int v16), (5, .int v14), (0, .ref (gad G k0)), (3, .int x10)]) dX6_rests_151 hl rfl (by decide) (by decide) (fun _ => rfl) (fun v41 ls hl => ?_)
          refine q_goto C 60 dX6_rests_154 (by decide) ?_
          exact ih x10 v41 σ ls (lv_sub hl [5, 6, 0] rfl)
        · refine q_iload C dX6_rests_139 (lv_at hl 0 rfl) ?_
          refine q_if_gt C 151 dX6_rests_141 (by decide) ?_ ?_
          · refine q_iinc (k := 6) C (fun v42 => [(4, .int v42), (8, .int v40), (7, .int v28), (6, .int v16), (5, .int v14), (0, .ref (gad G k0)), (3, .int x10)]) dX6_rests_151 hl rfl (by decide) (by decide) (fun _ => rfl) (fun v42 ls hl => ?_)
            refine q_goto C 60 dX6_rests_154 (by decide) ?_
            exact ih x10 v42 σ ls (lv_sub hl [5, 6, 0] rfl)
          · refine q_iload_n C dX6_rests_144 rfl (lv_at hl 5 rfl) ?_
            refine q_iconst C dX6_rests_145 rfl (by decide) (fun v43 => ?_)
            refine q_iload C dX6_rests_146 (lv_at hl 6 rfl) ?_
            refine q_ishl C dX6_rests_148 (fun v44 => ?_)
            refine q_ior C dX6_rests_149 (fun v45 => ?_)
            refine q_istore_n C [(3, .int v45), (8, .int v40), (7, .int v28), (6, .int v16), (5, .int v14), (0, .ref (gad G k0)), (4, .int x11)] dX6_rests_150 rfl hl (by decide) rfl (fun ls hl => ?_)
            refine q_iinc (k := 6) C (fun v46 => [(4, .int v46), (3, .int v45), (8, .int v40), (7, .int v28), (6, .int v16), (5, .int v14), (0, .ref (gad G k0))]) dX6_rests_151 hl rfl (by decide) (by decide) (fun _ => rfl) (fun v46 ls hl => ?_)
            refine q_goto C 60 dX6_rests_154 (by decide) ?_
            exact ih v45 v46 σ ls (lv_sub hl [6, 1, 0] rfl)
  have B26 : ∀ (n : Nat) (x6 : Int32) (σ : St) (ls : Array Slot), lv_has ls 9 [(0, .ref (gad G k0)), (1, .int a1), (2, .int a2), (3, .int x6)] → Sim G (AG G) 0 0 p l e { frames := 6, cells := 0, slots := 0, locals := 161 } s m args below meth c (fun r : Int × St => MQ below (QC G (vI r.1) (r.2)) args s 0 0 (AG G)) σ (f_X6_rests_L26 F k0 a1.toInt a2.toInt   n x6.toInt σ) (F0 m 26 ls []) := by
    intro n
    induction n with
    | zero =>
      intro x6 σ ls hl
      exact sim_none
    | succ n ih =>
      intro x6 σ ls hl
      rw [f_X6_rests_L26]
      refine q_iload_n C dX6_rests_26 rfl (lv_at hl 3 rfl) ?_
      refine q_iconst C dX6_rests_27 rfl (by decide) (fun v7 => ?_)
      refine q_icmp_ge C 55 dX6_rests_28 (by decide) ?_ ?_
      · refine q_iconst C dX6_rests_55 rfl (by decide) (fun v8 => ?_)
        refine q_istore_n C [(3, .int v8), (0, .ref (gad G k0)), (1, .int a1), (2, .int a2)] dX6_rests_56 rfl hl (by decide) rfl (fun ls hl => ?_)
        refine q_iconst C dX6_rests_57 rfl (by decide) (fun v9 => ?_)
        refine q_istore C [(4, .int v9), (3, .int v8), (0, .ref (gad G k0)), (1, .int a1), (2, .int a2)] dX6_rests_58 hl (by decide) rfl (fun ls hl => ?_)
        exact B60 F v8 v9 σ ls (lv_sub hl [2, 1, 0] rfl)
      · refine q_aload_n C dX6_rests_31 rfl (lv_at hl 0 rfl) ?_
        refine g_6_10 C hk0 kf_X6_60 dX6_rests_32 ?_
        refine q_iload_n C dX6_rests_35 rfl (lv_at hl 3 rfl) ?_
        refine q_aload_n C dX6_rests_36 rfl (lv_at hl 0 rfl) ?_
        refine q_iload_n C dX6_rests_37 rfl (lv_at hl 1 rfl) ?_
        refine q_iload_n C dX6_rests_38 rfl (lv_at hl 2 rfl) ?_
        refine q_iload_n C dX6_rests_39 rfl (lv_at hl 3 rfl) ?_
        refine q_iconst C dX6_rests_40 rfl (by decide) (fun v47 => ?_)
        refine q_iand C dX6_rests_41 (fun v48 => ?_)
        refine q_iload_n C dX6_rests_42 rfl (lv_at hl 3 rfl) ?_
        refine q_iconst C dX6_rests_43 rfl (by decide) (fun v49 => ?_)
        refine q_ishr C dX6_rests_44 (fun v50 => ?_)
        refine q_c2i C (fun r h => cr_V (As := [.int a1, .int a2, .int v48, .int v50]) (rest := [.int x6, .ref (gad G (k0 + 213))]) C (m_X6_wholeWithout l G F k0 a1 a2 v48 v50 σ r h) cb_X6_wholeWithout hk0 (by decide) rfl (cf_6 hk0 _) rfl kl_X6_322 ⟨Nat.le_of_ble_eq_true rfl, Nat.le_of_ble_eq_true rfl⟩ ⟨Nat.zero_le _, Nat.zero_le _⟩ hl.1 rfl (Nat.le_of_ble_eq_true rfl) dX6_rests_45 rfl) (fun v51 σ1 => ?_)
        refine a_ist C (yk_6_10 hk0) (yl_6_10 hk0) dX6_rests_48 (q_sg (fun σ2 => ?_))
        refine q_iinc (k := 3) C (fun v52 => [(3, .int v52), (0, .ref (gad G k0)), (1, .int a1), (2, .int a2)]) dX6_rests_49 hl rfl (by decide) (by decide) (fun _ => rfl) (fun v52 ls hl => ?_)
        refine q_goto C 26 dX6_rests_52 (by decide) ?_
        exact ih v52 σ2 ls (lv_sub hl [1, 2, 3, 0] rfl)
  refine q_aload_n C dX6_rests_0 rfl (lv_at hl 0 rfl) ?_
  refine q_iload_n C dX6_rests_1 rfl (lv_at hl 1 rfl) ?_
  refine q_c1i C (fun r h => cr_V (As := [.int a1]) (rest := []) C (m_X6_isTold l G F k0 a1 σ r h) cb_X6_isTold hk0 (by decide) rfl (cf_6 hk0 _) rfl kl_X6_309 ⟨Nat.le_of_ble_eq_true rfl, Nat.le_of_ble_eq_true rfl⟩ ⟨Nat.zero_le _, Nat.zero_le _⟩ hl.1 rfl (Nat.le_of_ble_eq_true rfl) dX6_rests_2 rfl) (fun v1 => ?_)
  refine q_if_eq C 21 dX6_rests_5 (by decide) ?_ ?_
  · refine q_bipush C dX6_rests_21 rfl (by decide) (fun v2 => ?_)
    exact q_iretE C hr hlo dX6_rests_23
  · refine q_aload_n C dX6_rests_8 rfl (lv_at hl 0 rfl) ?_
    refine q_iload_n C dX6_rests_9 rfl (lv_at hl 2 rfl) ?_
    refine q_c1i C (fun r h => cr_V (As := [.int a2]) (rest := []) C (m_X6_isTold l G F k0 a2 σ r h) cb_X6_isTold hk0 (by decide) rfl (cf_6 hk0 _) rfl kl_X6_309 ⟨Nat.le_of_ble_eq_true rfl, Nat.le_of_ble_eq_true rfl⟩ ⟨Nat.zero_le _, Nat.zero_le _⟩ hl.1 rfl (Nat.le_of_ble_eq_true rfl) dX6_rests_10 rfl) (fun v3 => ?_)
    refine q_if_eq C 21 dX6_rests_13 (by decide) ?_ ?_
    · refine q_bipush C dX6_rests_21 rfl (by decide) (fun v4 => ?_)
      exact q_iretE C hr hlo dX6_rests_23
    · refine q_iload_n C dX6_rests_16 rfl (lv_at hl 1 rfl) ?_
      refine q_iload_n C dX6_rests_17 rfl (lv_at hl 2 rfl) ?_
      refine q_icmp_ne C 24 dX6_rests_18 (by decide) ?_ ?_
      · refine q_iconst C dX6_rests_24 rfl (by decide) (fun v5 => ?_)
        refine q_istore_n C [(3, .int v5), (0, .ref (gad G k0)), (1, .int a1), (2, .int a2)] dX6_rests_25 rfl hl (by decide) rfl (fun ls hl => ?_)
        exact B26 F v5 σ ls (lv_sub hl [1, 2, 3, 0] rfl)
      · refine q_bipush C dX6_rests_21 rfl (by decide) (fun v53 => ?_)
        exact q_iretE C hr hlo dX6_rests_23
def f_X6_gets (F : Nat) (k0 : Nat) (a1 : Int) (a2 : Int) (a3 : Int) (a4 : Int) (σ : St) : Option (Int × St) :=
  z_ob 6 k0 <| 
  z_c1 (f_X6_isTold F k0 a1 σ) fun v1 =>
  if v1 = 0 then (
    z_gt (-1000) fun v2 =>
    some (v2, σ))
  else (
    z_c1 (f_X6_isTold F k0 a2 σ) fun v3 =>
    if v3 = 0 then (
      z_gt (-1000) fun v4 =>
      some (v4, σ))
    else (
      if a1 = a2 then (
        z_gt (-1000) fun v5 =>
        some (v5, σ))
      else (
        if a3 < 0 then (
          z_gt (-1000) fun v6 =>
          some (v6, σ))
        else (
          z_gt 1 fun v7 =>
          if v7 < a3 then (
            z_gt (-1000) fun v8 =>
            some (v8, σ))
          else (
            if a4 < 0 then (
              z_gt (-1000) fun v9 =>
              some (v9, σ))
            else (
              z_gt 1 fun v10 =>
              if a4 ≤ v10 then (
                z_c2 (f_X6_wholeWithout F k0 a1 a2 a3 a4 σ) fun v11 σ1 =>
                z_gt 3 fun v12 =>
                z_ck (v12 * a3) fun v13 =>
                z_ck (v11 - v13) fun v14 =>
                some (v14, σ1))
              else (
                z_gt (-1000) fun v15 =>
                some (v15, σ))))))))
theorem cb_X6_gets : CB yX6_gets cX6_gets 5 (some .int) 4 := ⟨ki_X6_gets, kq_X6_gets, kn_X6, kc_X6_gets, by decide +kernel, by decide +kernel, by decide +kernel⟩
set_option maxRecDepth 20000 in
set_option maxHeartbeats 4000000 in
theorem m_X6_gets (l : Launch) (G : GG) (F : Nat) (k0 : Nat) (a1 : Int32) (a2 : Int32) (a3 : Int32) (a4 : Int32) (σ : St) : ∀ r, f_X6_gets F k0 a1.toInt a2.toInt a3.toInt a4.toInt σ = some r → MC G l yX6_gets cX6_gets 5 (some .int) { frames := 6, cells := 0, slots := 0, locals := 161 } [.ref (gad G k0), .int a1, .int a2, .int a3, .int a4] σ (vI r.1) r.2 := by
  refine MC_of (own := RX6) (fun r : Int × St => vI r.1) (fun r : Int × St => r.2) (by decide +kernel) rfl (Nat.le_of_ble_eq_true rfl) ?_
  intro p e s m args below meth c C hr hlo ls hl
  have hl : lv_has ls 5 [(0, .ref (gad G k0)), (1, .int a1), (2, .int a2), (3, .int a3), (4, .int a4)] := hl
  unfold f_X6_gets
  refine q_ob (fun hk0 => ?_)
  refine q_aload_n C dX6_gets_0 rfl (lv_at hl 0 rfl) ?_
  refine q_iload_n C dX6_gets_1 rfl (lv_at hl 1 rfl) ?_
  refine q_c1i C (fun r h => cr_V (As := [.int a1]) (rest := []) C (m_X6_isTold l G F k0 a1 σ r h) cb_X6_isTold hk0 (by decide) rfl (cf_6 hk0 _) rfl kl_X6_309 ⟨Nat.le_of_ble_eq_true rfl, Nat.le_of_ble_eq_true rfl⟩ ⟨Nat.zero_le _, Nat.zero_le _⟩ hl.1 rfl (Nat.le_of_ble_eq_true rfl) dX6_gets_2 rfl) (fun v1 => ?_)
  refine q_if_eq C 41 dX6_gets_5 (by decide) ?_ ?_
  · refine q_sipush C dX6_gets_41 rfl (by decide) (fun v2 => ?_)
    exact q_iretE C hr hlo dX6_gets_44
  · refine q_aload_n C dX6_gets_8 rfl (lv_at hl 0 rfl) ?_
    refine q_iload_n C dX6_gets_9 rfl (lv_at hl 2 rfl) ?_
    refine q_c1i C (fun r h => cr_V (As := [.int a2]) (rest := []) C (m_X6_isTold l G F k0 a2 σ r h) cb_X6_isTold hk0 (by decide) rfl (cf_6 hk0 _) rfl kl_X6_309 ⟨Nat.le_of_ble_eq_true rfl, Nat.le_of_ble_eq_true rfl⟩ ⟨Nat.zero_le _, Nat.zero_le _⟩ hl.1 rfl (Nat.le_of_ble_eq_true rfl) dX6_gets_10 rfl) (fun v3 => ?_)
    refine q_if_eq C 41 dX6_gets_13 (by decide) ?_ ?_
    · refine q_sipush C dX6_gets_41 rfl (by decide) (fun v4 => ?_)
      exact q_iretE C hr hlo dX6_gets_44
    · refine q_iload_n C dX6_gets_16 rfl (lv_at hl 1 rfl) ?_
      refine q_iload_n C dX6_gets_17 rfl (lv_at hl 2 rfl) ?_
      refine q_icmp_eq C 41 dX6_gets_18 (by decide) ?_ ?_
      · refine q_sipush C dX6_gets_41 rfl (by decide) (fun v5 => ?_)
        exact q_iretE C hr hlo dX6_gets_44
      · refine q_iload_n C dX6_gets_21 rfl (lv_at hl 3 rfl) ?_
        refine q_if_lt C 41 dX6_gets_22 (by decide) ?_ ?_
        · refine q_sipush C dX6_gets_41 rfl (by decide) (fun v6 => ?_)
          exact q_iretE C hr hlo dX6_gets_44
        · refine q_iload_n C dX6_gets_25 rfl (lv_at hl 3 rfl) ?_
          refine q_iconst C dX6_gets_26 rfl (by decide) (fun v7 => ?_)
          refine q_icmp_gt C 41 dX6_gets_27 (by decide) ?_ ?_
          · refine q_sipush C dX6_gets_41 rfl (by decide) (fun v8 => ?_)
            exact q_iretE C hr hlo dX6_gets_44
          · refine q_iload C dX6_gets_30 (lv_at hl 4 rfl) ?_
            refine q_if_lt C 41 dX6_gets_32 (by decide) ?_ ?_
            · refine q_sipush C dX6_gets_41 rfl (by decide) (fun v9 => ?_)
              exact q_iretE C hr hlo dX6_gets_44
            · refine q_iload C dX6_gets_35 (lv_at hl 4 rfl) ?_
              refine q_iconst C dX6_gets_37 rfl (by decide) (fun v10 => ?_)
              refine q_icmp_le C 45 dX6_gets_38 (by decide) ?_ ?_
              · refine q_aload_n C dX6_gets_45 rfl (lv_at hl 0 rfl) ?_
                refine q_iload_n C dX6_gets_46 rfl (lv_at hl 1 rfl) ?_
                refine q_iload_n C dX6_gets_47 rfl (lv_at hl 2 rfl) ?_
                refine q_iload_n C dX6_gets_48 rfl (lv_at hl 3 rfl) ?_
                refine q_iload C dX6_gets_49 (lv_at hl 4 rfl) ?_
                refine q_c2i C (fun r h => cr_V (As := [.int a1, .int a2, .int a3, .int a4]) (rest := []) C (m_X6_wholeWithout l G F k0 a1 a2 a3 a4 σ r h) cb_X6_wholeWithout hk0 (by decide) rfl (cf_6 hk0 _) rfl kl_X6_322 ⟨Nat.le_of_ble_eq_true rfl, Nat.le_of_ble_eq_true rfl⟩ ⟨Nat.zero_le _, Nat.zero_le _⟩ hl.1 rfl (Nat.le_of_ble_eq_true rfl) dX6_gets_51 rfl) (fun v11 σ1 => ?_)
                refine q_iconst C dX6_gets_54 rfl (by decide) (fun v12 => ?_)
                refine q_iload_n C dX6_gets_55 rfl (lv_at hl 3 rfl) ?_
                refine q_imul C dX6_gets_56 (fun v13 => ?_)
                refine q_isub C dX6_gets_57 (fun v14 => ?_)
                exact q_iretE C hr hlo dX6_gets_58
              · refine q_sipush C dX6_gets_41 rfl (by decide) (fun v15 => ?_)
                exact q_iretE C hr hlo dX6_gets_44
def f_X6_hasChances (F : Nat) (k0 : Nat) (a1 : Int) (σ : St) : Option (Int) :=
  z_ob 6 k0 <| 
  z_c1 (f_X4_exists F (k0 + 4) σ) fun v1 =>
  if v1 = 0 then (
    z_gt 0 fun v2 =>
    z_bo v2 <| some v2)
  else (
    if a1 < 0 then (
      z_gt 0 fun v3 =>
      z_bo v3 <| some v3)
    else (
      z_gt 6 fun v4 =>
      if v4 < a1 then (
        z_gt 0 fun v5 =>
        z_bo v5 <| some v5)
      else (
        z_c1 (f_X4_size F (k0 + 4) σ) fun v6 =>
        if v6 < a1 then (
          z_gt 0 fun v7 =>
          z_bo v7 <| some v7)
        else (
          z_gt 1 fun v8 =>
          z_bo v8 <| some v8))))
theorem cb_X6_hasChances : CB yX6_hasChances cX6_hasChances 2 (some .boolean) 1 := ⟨ki_X6_hasChances, kq_X6_hasChances, kn_X6, kc_X6_hasChances, by decide +kernel, by decide +kernel, by decide +kernel⟩
set_option maxRecDepth 20000 in
set_option maxHeartbeats 4000000 in
theorem m_X6_hasChances (l : Launch) (G : GG) (F : Nat) (k0 : Nat) (a1 : Int32) (σ : St) : ∀ r, f_X6_hasChances F k0 a1.toInt σ = some r → MC G l yX6_hasChances cX6_hasChances 2 (some .boolean) { frames := 1, cells := 0, slots := 0, locals := 20 } [.ref (gad G k0), .int a1] σ (vI r) σ := by
  refine MC_of (own := RX6) (vI) (fun _ => σ) (by decide +kernel) rfl (Nat.le_of_ble_eq_true rfl) ?_
  intro p e s m args below meth c C hr hlo ls hl
  have hl : lv_has ls 2 [(0, .ref (gad G k0)), (1, .int a1)] := hl
  unfold f_X6_hasChances
  refine q_ob (fun hk0 => ?_)
  refine q_aload_n C dX6_hasChances_0 rfl (lv_at hl 0 rfl) ?_
  refine g_6_1 C hk0 kf_X6_19 dX6_hasChances_1 ?_
  refine q_c1i C (fun r h => cr_V (As := []) (rest := []) C (m_X4_exists l G F (k0 + 4) σ r h) cb_X4_exists (yk_6_1 hk0) (by decide) rfl (cf_4 (yk_6_1 hk0) _) rfl kl_X6_245 ⟨Nat.le_of_ble_eq_true rfl, Nat.le_of_ble_eq_true rfl⟩ ⟨Nat.zero_le _, Nat.zero_le _⟩ hl.1 rfl (Nat.le_of_ble_eq_true rfl) dX6_hasChances_4 rfl) (fun v1 => ?_)
  refine q_if_eq C 35 dX6_hasChances_7 (by decide) ?_ ?_
  · refine q_iconst C dX6_hasChances_35 rfl (by decide) (fun v2 => ?_)
    exact q_zret C hr hlo dX6_hasChances_36
  · refine q_iload_n C dX6_hasChances_10 rfl (lv_at hl 1 rfl) ?_
    refine q_if_lt C 35 dX6_hasChances_11 (by decide) ?_ ?_
    · refine q_iconst C dX6_hasChances_35 rfl (by decide) (fun v3 => ?_)
      exact q_zret C hr hlo dX6_hasChances_36
    · refine q_iload_n C dX6_hasChances_14 rfl (lv_at hl 1 rfl) ?_
      refine q_bipush C dX6_hasChances_15 rfl (by decide) (fun v4 => ?_)
      refine q_icmp_gt C 35 dX6_hasChances_17 (by decide) ?_ ?_
      · refine q_iconst C dX6_hasChances_35 rfl (by decide) (fun v5 => ?_)
        exact q_zret C hr hlo dX6_hasChances_36
      · refine q_iload_n C dX6_hasChances_20 rfl (lv_at hl 1 rfl) ?_
        refine q_aload_n C dX6_hasChances_21 rfl (lv_at hl 0 rfl) ?_
        refine g_6_1 C hk0 kf_X6_19 dX6_hasChances_22 ?_
        refine q_c1i C (fun r h => cr_V (As := []) (rest := [.int a1]) C (m_X4_size l G F (k0 + 4) σ r h) cb_X4_size (yk_6_1 hk0) (by decide) rfl (cf_4 (yk_6_1 hk0) _) rfl kl_X6_249 ⟨Nat.le_of_ble_eq_true rfl, Nat.le_of_ble_eq_true rfl⟩ ⟨Nat.zero_le _, Nat.zero_le _⟩ hl.1 rfl (Nat.le_of_ble_eq_true rfl) dX6_hasChances_25 rfl) (fun v6 => ?_)
        refine q_icmp_gt C 35 dX6_hasChances_28 (by decide) ?_ ?_
        · refine q_iconst C dX6_hasChances_35 rfl (by decide) (fun v7 => ?_)
          exact q_zret C hr hlo dX6_hasChances_36
        · refine q_iconst C dX6_hasChances_31 rfl (by decide) (fun v8 => ?_)
          refine q_goto C 36 dX6_hasChances_32 (by decide) ?_
          exact q_zret C hr hlo dX6_hasChances_36
def f_X6_power_L5 (F : Nat) (a1 : Int) (a2 : Int)  (σ : St) : Nat → Int → Int → Option (Int)
  | 0, _, _ => none
  | n + 1, x3, x4 =>
    if a2 ≤ x4 then (
      some x3)
    else (
      z_gt a1 fun v5 =>
      z_lk (x3 * v5) fun v6 =>
      z_ck (x4 + 1) fun v7 =>
      f_X6_power_L5 F a1 a2 σ n v6 v7)

def f_X6_power (F : Nat) (a1 : Int) (a2 : Int) (σ : St) : Option (Int) :=
  
  z_gt 1 fun v1 =>
  z_gt 0 fun v2 =>
  f_X6_power_L5 F a1 a2 σ F v1 v2
theorem sb_X6_power : SB yX6_power cX6_power 5 (some .long) 2 := ⟨ks_X6_power, kn_X6, kc_X6_power, by decide +kernel, by decide +kernel, by decide +kernel⟩
set_option maxRecDepth 20000 in
set_option maxHeartbeats 4000000 in
theorem m_X6_power (l : Launch) (G : GG) (F : Nat) (a1 : Int32) (a2 : Int32) (σ : St) : ∀ r, f_X6_power F a1.toInt a2.toInt σ = some r → MC G l yX6_power cX6_power 5 (some .long) { frames := 0, cells := 0, slots := 0, locals := 0 } [.int a1, .int a2] σ (vL r) σ := by
  refine MC_of (own := RX6) (vL) (fun _ => σ) (by decide +kernel) rfl (Nat.le_of_ble_eq_true rfl) ?_
  intro p e s m args below meth c C hr hlo ls hl
  have hl : lv_has ls 5 [(0, .int a1), (1, .int a2)] := hl
  unfold f_X6_power
  have B5 : ∀ (n : Nat) (x3 : Int64) (x4 : Int32) (ls : Array Slot), lv_has ls 5 [(0, .int a1), (1, .int a2), (2, .long x3), (4, .int x4)] → Sim G (AG G) 0 0 p l e { frames := 0, cells := 0, slots := 0, locals := 0 } s m args below meth c (fun r : Int => MQ below (QC G (vL r) (σ)) args s 0 0 (AG G)) σ (f_X6_power_L5 F a1.toInt a2.toInt  σ n x3.toInt x4.toInt) (F0 m 5 ls []) := by
    intro n
    induction n with
    | zero =>
      intro x3 x4 ls hl
      exact sim_none
    | succ n ih =>
      intro x3 x4 ls hl
      rw [f_X6_power_L5]
      refine q_iload C dX6_power_5 (lv_at hl 3 rfl) ?_
      refine q_iload_n C dX6_power_7 rfl (lv_at hl 1 rfl) ?_
      refine q_icmp_ge C 22 dX6_power_8 (by decide) ?_ ?_
      · refine q_lload_n C dX6_power_22 rfl (lv_at hl 2 rfl) ?_
        exact q_lret C hr hlo dX6_power_23
      · refine q_lload_n C dX6_power_11 rfl (lv_at hl 2 rfl) ?_
        refine q_iload_n C dX6_power_12 rfl (lv_at hl 0 rfl) ?_
        refine q_i2l C dX6_power_13 (fun v5 => ?_)
        refine q_lmul C dX6_power_14 (fun v6 => ?_)
        refine q_lstore_n C [(2, .long v6), (0, .int a1), (1, .int a2), (4, .int x4)] dX6_power_15 rfl hl (by decide) rfl (fun ls hl => ?_)
        refine q_iinc (k := 3) C (fun v7 => [(4, .int v7), (2, .long v6), (0, .int a1), (1, .int a2)]) dX6_power_16 hl rfl (by decide) (by decide) (fun _ => rfl) (fun v7 ls hl => ?_)
        refine q_goto C 5 dX6_power_19 (by decide) ?_
        exact ih v6 v7 ls (lv_sub hl [2, 3, 1, 0] rfl)
  refine q_lconst C dX6_power_0 rfl (by decide) (fun v1 => ?_)
  refine q_lstore_n C [(2, .long v1), (0, .int a1), (1, .int a2)] dX6_power_1 rfl hl (by decide) rfl (fun ls hl => ?_)
  refine q_iconst C dX6_power_2 rfl (by decide) (fun v2 => ?_)
  refine q_istore C [(4, .int v2), (2, .long v1), (0, .int a1), (1, .int a2)] dX6_power_3 hl (by decide) rfl (fun ls hl => ?_)
  exact B5 F v1 v2 ls (lv_sub hl [2, 3, 1, 0] rfl)
def f_X6_weighedDirties_L5 (F : Nat) (k0 : Nat) (a1 : Int) (a2 : Int)   : Nat → Int → Int → St → Option (Int × St)
  | 0, _, _, _ => none
  | n + 1, x3, x4, σ =>
    z_gt 1 fun v5 =>
    z_gt (z_shl v5 a1) fun v6 =>
    if v6 ≤ x4 then (
      some (x3, σ))
    else (
      z_c1 (f_J6_bitCount_0f7a4 F x4 σ) fun v7 =>
      z_gt (σ (k0 + 4) 2) fun v8 =>
      z_c1 (f_X6_power F v8 v7 σ) fun v9 =>
      z_gt 10 fun v10 =>
      z_gt (σ (k0 + 4) 2) fun v11 =>
      z_ck (v10 - v11) fun v12 =>
      z_ck (a1 - v7) fun v13 =>
      z_c1 (f_X6_power F v12 v13 σ) fun v14 =>
      z_lk (v9 * v14) fun v15 =>
      z_gt 0 fun v16 =>
      z_gt (z_cmp v15 v16) fun v17 =>
      if v17 = 0 then (
        z_ck (x4 + 1) fun v18 =>
        f_X6_weighedDirties_L5 F k0 a1 a2 n x3 v18 σ)
      else (
        z_gt (σ (k0 + 4) 1) fun v19 =>
        z_gt x4 fun v20 =>
        z_c1 (f_X4_size F (k0 + 4) σ) fun v21 =>
        z_ck (v21 - a1) fun v22 =>
        z_gt (z_lshl v20 v22) fun v23 =>
        z_c1 (f_X3_play F (k0 + 110) (k0 + 4) v19 v23 σ) fun σ1 =>
        z_gt (σ1 (k0 + 110) 2) fun v24 =>
        z_gt (z_and v24 a2) fun v25 =>
        z_c1 (f_J6_bitCount_0f7a4 F v25 σ1) fun v26 =>
        z_gt v26 fun v27 =>
        z_lk (v15 * v27) fun v28 =>
        z_lk (x3 + v28) fun v29 =>
        z_ck (x4 + 1) fun v30 =>
        f_X6_weighedDirties_L5 F k0 a1 a2 n v29 v30 σ1))

def f_X6_weighedDirties (F : Nat) (k0 : Nat) (a1 : Int) (a2 : Int) (σ : St) : Option (Int × St) :=
  z_ob 6 k0 <| 
  z_gt 0 fun v1 =>
  z_gt 0 fun v2 =>
  f_X6_weighedDirties_L5 F k0 a1 a2 F v1 v2 σ
theorem cb_X6_weighedDirties : CB yX6_weighedDirties cX6_weighedDirties 9 (some .long) 2 := ⟨ki_X6_weighedDirties, kq_X6_weighedDirties, kn_X6, kc_X6_weighedDirties, by decide +kernel, by decide +kernel, by decide +kernel⟩
set_option maxRecDepth 20000 in
set_option maxHeartbeats 4000000 in
theorem m_X6_weighedDirties (l : Launch) (G : GG) (F : Nat) (k0 : Nat) (a1 : Int32) (a2 : Int32) (σ : St) : ∀ r, f_X6_weighedDirties F k0 a1.toInt a2.toInt σ = some r → MC G l yX6_weighedDirties cX6_weighedDirties 9 (some .long) { frames := 5, cells := 0, slots := 0, locals := 137 } [.ref (gad G k0), .int a1, .int a2] σ (vL r.1) r.2 := by
  refine MC_of (own := RX6) (fun r : Int × St => vL r.1) (fun r : Int × St => r.2) (by decide +kernel) rfl (Nat.le_of_ble_eq_true rfl) ?_
  intro p e s m args below meth c C hr hlo ls hl
  have hl : lv_has ls 9 [(0, .ref (gad G k0)), (1, .int a1), (2, .int a2)] := hl
  unfold f_X6_weighedDirties
  refine q_ob (fun hk0 => ?_)
  have B5 : ∀ (n : Nat) (x3 : Int64) (x4 : Int32) (σ : St) (ls : Array Slot), lv_has ls 9 [(0, .ref (gad G k0)), (1, .int a1), (2, .int a2), (3, .long x3), (5, .int x4)] → Sim G (AG G) 0 0 p l e { frames := 5, cells := 0, slots := 0, locals := 137 } s m args below meth c (fun r : Int × St => MQ below (QC G (vL r.1) (r.2)) args s 0 0 (AG G)) σ (f_X6_weighedDirties_L5 F k0 a1.toInt a2.toInt   n x3.toInt x4.toInt σ) (F0 m 5 ls []) := by
    intro n
    induction n with
    | zero =>
      intro x3 x4 σ ls hl
      exact sim_none
    | succ n ih =>
      intro x3 x4 σ ls hl
      rw [f_X6_weighedDirties_L5]
      refine q_iload C dX6_weighedDirties_5 (lv_at hl 4 rfl) ?_
      refine q_iconst C dX6_weighedDirties_7 rfl (by decide) (fun v5 => ?_)
      refine q_iload_n C dX6_weighedDirties_8 rfl (lv_at hl 1 rfl) ?_
      refine q_ishl C dX6_weighedDirties_9 (fun v6 => ?_)
      refine q_icmp_ge C 115 dX6_weighedDirties_10 (by decide) ?_ ?_
      · refine q_lload_n C dX6_weighedDirties_115 rfl (lv_at hl 3 rfl) ?_
        exact q_lretE C hr hlo dX6_weighedDirties_116
      · refine q_iload C dX6_weighedDirties_13 (lv_at hl 4 rfl) ?_
        refine q_c1i C (fun r h => cr_S (As := [.int x4]) (rest := []) C (m_J6_bitCount_0f7a4 l G F x4 σ r h) sb_J6_bitCount_0f7a4 kl_X6_132 ⟨Nat.le_of_ble_eq_true rfl, Nat.le_of_ble_eq_true rfl⟩ ⟨Nat.zero_le _, Nat.zero_le _⟩ hl.1 rfl (Nat.le_of_ble_eq_true rfl) dX6_weighedDirties_15 rfl) (fun v7 => ?_)
        refine q_istore C [(6, .int v7), (0, .ref (gad G k0)), (1, .int a1), (2, .int a2), (3, .long x3), (5, .int x4)] dX6_weighedDirties_18 hl (by decide) rfl (fun ls hl => ?_)
        refine q_aload_n C dX6_weighedDirties_20 rfl (lv_at hl 1 rfl) ?_
        refine g_6_1 C hk0 kf_X6_19 dX6_weighedDirties_21 ?_
        refine g_4_2 C (yk_6_1 hk0) kf_X6_341 dX6_weighedDirties_24 (fun v8 => ?_)
        refine q_iload C dX6_weighedDirties_27 (lv_at hl 0 rfl) ?_
        refine q_c1l C (fun r h => cr_S (As := [.int v8, .int v7]) (rest := []) C (m_X6_power l G F v8 v7 σ r h) sb_X6_power kl_X6_338 ⟨Nat.le_of_ble_eq_true rfl, Nat.le_of_ble_eq_true rfl⟩ ⟨Nat.zero_le _, Nat.zero_le _⟩ hl.1 rfl (Nat.le_of_ble_eq_true rfl) dX6_weighedDirties_29 rfl) (fun v9 => ?_)
        refine q_bipush C dX6_weighedDirties_32 rfl (by decide) (fun v10 => ?_)
        refine q_aload_n C dX6_weighedDirties_34 rfl (lv_at hl 1 rfl) ?_
        refine g_6_1 C hk0 kf_X6_19 dX6_weighedDirties_35 ?_
        refine g_4_2 C (yk_6_1 hk0) kf_X6_341 dX6_weighedDirties_38 (fun v11 => ?_)
        refine q_isub C dX6_weighedDirties_41 (fun v12 => ?_)
        refine q_iload_n C dX6_weighedDirties_42 rfl (lv_at hl 2 rfl) ?_
        refine q_iload C dX6_weighedDirties_43 (lv_at hl 0 rfl) ?_
        refine q_isub C dX6_weighedDirties_45 (fun v13 => ?_)
        refine q_c1l C (fun r h => cr_S (As := [.int v12, .int v13]) (rest := [.long v9]) C (m_X6_power l G F v12 v13 σ r h) sb_X6_power kl_X6_338 ⟨Nat.le_of_ble_eq_true rfl, Nat.le_of_ble_eq_true rfl⟩ ⟨Nat.zero_le _, Nat.zero_le _⟩ hl.1 rfl (Nat.le_of_ble_eq_true rfl) dX6_weighedDirties_46 rfl) (fun v14 => ?_)
        refine q_lmul C dX6_weighedDirties_49 (fun v15 => ?_)
        refine q_lstore C [(7, .long v15), (6, .int v7), (0, .ref (gad G k0)), (1, .int a1), (2, .int a2), (3, .long x3), (5, .int x4)] dX6_weighedDirties_50 hl (by decide) rfl (fun ls hl => ?_)
        refine q_lload C dX6_weighedDirties_52 (lv_at hl 0 rfl) ?_
        refine q_lconst C dX6_weighedDirties_54 rfl (by decide) (fun v16 => ?_)
        refine q_lcmp C dX6_weighedDirties_55 (fun v17 => ?_)
        refine q_if_eq C 109 dX6_weighedDirties_56 (by decide) ?_ ?_
        · refine q_iinc (k := 6) C (fun v18 => [(5, .int v18), (7, .long v15), (6, .int v7), (0, .ref (gad G k0)), (1, .int a1), (2, .int a2), (3, .long x3)]) dX6_weighedDirties_109 hl rfl (by decide) (by decide) (fun _ => rfl) (fun v18 ls hl => ?_)
          refine q_goto C 5 dX6_weighedDirties_112 (by decide) ?_
          exact ih x3 v18 σ ls (lv_sub hl [3, 4, 5, 6, 0] rfl)
        · refine q_aload_n C dX6_weighedDirties_59 rfl (lv_at hl 2 rfl) ?_
          refine g_6_6 C hk0 kf_X6_43 dX6_weighedDirties_60 ?_
          refine q_aload_n C dX6_weighedDirties_63 rfl (lv_at hl 2 rfl) ?_
          refine g_6_1 C hk0 kf_X6_19 dX6_weighedDirties_64 ?_
          refine q_aload_n C dX6_weighedDirties_67 rfl (lv_at hl 2 rfl) ?_
          refine g_6_1 C hk0 kf_X6_19 dX6_weighedDirties_68 ?_
          refine g_4_1 C (yk_6_1 hk0) kf_X6_326 dX6_weighedDirties_71 (fun v19 => ?_)
          refine q_iload C dX6_weighedDirties_74 (lv_at hl 6 rfl) ?_
          refine q_i2l C dX6_weighedDirties_76 (fun v20 => ?_)
          refine q_aload_n C dX6_weighedDirties_77 rfl (lv_at hl 2 rfl) ?_
          refine g_6_1 C hk0 kf_X6_19 dX6_weighedDirties_78 ?_
          refine q_c1i C (fun r h => cr_V (As := []) (rest := [.long v20, .int v19, .ref (gad G (k0 + 4)), .ref (gad G (k0 + 110))]) C (m_X4_size l G F (k0 + 4) σ r h) cb_X4_size (yk_6_1 hk0) (by decide) rfl (cf_4 (yk_6_1 hk0) _) rfl kl_X6_249 ⟨Nat.le_of_ble_eq_true rfl, Nat.le_of_ble_eq_true rfl⟩ ⟨Nat.zero_le _, Nat.zero_le _⟩ hl.1 rfl (Nat.le_of_ble_eq_true rfl) dX6_weighedDirties_81 rfl) (fun v21 => ?_)
          refine q_iload_n C dX6_weighedDirties_84 rfl (lv_at hl 3 rfl) ?_
          refine q_isub C dX6_weighedDirties_85 (fun v22 => ?_)
          refine q_lshl C dX6_weighedDirties_86 (fun v23 => ?_)
          refine q_cv C (fun r h => cr_V (As := [.ref (gad G (k0 + 4)), .int v19, .long v23]) (rest := []) C (m_X3_play l G F (k0 + 110) (k0 + 4) v19 v23 σ r h) cb_X3_play (yk_6_6 hk0) (by decide) rfl (cf_3 (yk_6_6 hk0) _) rfl kl_X6_299 ⟨Nat.le_of_ble_eq_true rfl, Nat.le_of_ble_eq_true rfl⟩ ⟨Nat.zero_le _, Nat.zero_le _⟩ hl.1 rfl (Nat.le_of_ble_eq_true rfl) dX6_weighedDirties_87 rfl) (fun σ1 => ?_)
          refine q_lload_n C dX6_weighedDirties_90 rfl (lv_at hl 5 rfl) ?_
          refine q_lload C dX6_weighedDirties_91 (lv_at hl 0 rfl) ?_
          refine q_aload_n C dX6_weighedDirties_93 rfl (lv_at hl 2 rfl) ?_
          refine g_6_6 C hk0 kf_X6_43 dX6_weighedDirties_94 ?_
          refine g_3_2 C (yk_6_6 hk0) kf_X6_140 dX6_weighedDirties_97 (fun v24 => ?_)
          refine q_iload_n C dX6_weighedDirties_100 rfl (lv_at hl 4 rfl) ?_
          refine q_iand C dX6_weighedDirties_101 (fun v25 => ?_)
          refine q_c1i C (fun r h => cr_S (As := [.int v25]) (rest := [.long v15, .long x3]) C (m_J6_bitCount_0f7a4 l G F v25 σ1 r h) sb_J6_bitCount_0f7a4 kl_X6_132 ⟨Nat.le_of_ble_eq_true rfl, Nat.le_of_ble_eq_true rfl⟩ ⟨Nat.zero_le _, Nat.zero_le _⟩ hl.1 rfl (Nat.le_of_ble_eq_true rfl) dX6_weighedDirties_102 rfl) (fun v26 => ?_)
          refine q_i2l C dX6_weighedDirties_105 (fun v27 => ?_)
          refine q_lmul C dX6_weighedDirties_106 (fun v28 => ?_)
          refine q_ladd C dX6_weighedDirties_107 (fun v29 => ?_)
          refine q_lstore_n C [(3, .long v29), (7, .long v15), (6, .int v7), (0, .ref (gad G k0)), (1, .int a1), (2, .int a2), (5, .int x4)] dX6_weighedDirties_108 rfl hl (by decide) rfl (fun ls hl => ?_)
          refine q_iinc (k := 6) C (fun v30 => [(5, .int v30), (3, .long v29), (7, .long v15), (6, .int v7), (0, .ref (gad G k0)), (1, .int a1), (2, .int a2)]) dX6_weighedDirties_109 hl rfl (by decide) (by decide) (fun _ => rfl) (fun v30 ls hl => ?_)
          refine q_goto C 5 dX6_weighedDirties_112 (by decide) ?_
          exact ih v29 v30 σ1 ls (lv_sub hl [4, 5, 6, 1, 0] rfl)
  refine q_lconst C dX6_weighedDirties_0 rfl (by decide) (fun v1 => ?_)
  refine q_lstore_n C [(3, .long v1), (0, .ref (gad G k0)), (1, .int a1), (2, .int a2)] dX6_weighedDirties_1 rfl hl (by decide) rfl (fun ls hl => ?_)
  refine q_iconst C dX6_weighedDirties_2 rfl (by decide) (fun v2 => ?_)
  refine q_istore C [(5, .int v2), (3, .long v1), (0, .ref (gad G k0)), (1, .int a1), (2, .int a2)] dX6_weighedDirties_3 hl (by decide) rfl (fun ls hl => ?_)
  exact B5 F v1 v2 σ ls (lv_sub hl [2, 3, 4, 1, 0] rfl)
def f_X6_chance (F : Nat) (k0 : Nat) (a1 : Int) (a2 : Int) (a3 : Int) (σ : St) : Option (Int × St) :=
  z_ob 6 k0 <| 
  z_c1 (f_X6_hasCell F k0 a1 σ) fun v1 =>
  if v1 = 0 then (
    z_gt (-2) fun v2 =>
    some (v2, σ))
  else (
    z_c1 (f_X6_hasChances F k0 a2 σ) fun v3 =>
    if v3 = 0 then (
      z_gt (-2) fun v4 =>
      some (v4, σ))
    else (
      if a3 < 0 then (
        z_gt (-2) fun v5 =>
        some (v5, σ))
      else (
        z_gt 1 fun v6 =>
        if a3 ≤ v6 then (
          z_gt 1 fun v7 =>
          z_gt (z_shl v7 a1) fun v8 =>
          z_c2 (f_X6_weighedDirties F k0 a2 v8 σ) fun v9 σ1 =>
          z_gt 10 fun v10 =>
          z_c1 (f_X6_power F v10 a2 σ1) fun v11 =>
          z_c1 (f_X6_lowest F v9 v11 a3 σ1) fun v12 =>
          some (v12, σ1))
        else (
          z_gt (-2) fun v13 =>
          some (v13, σ)))))
theorem cb_X6_chance : CB yX6_chance cX6_chance 4 (some .long) 3 := ⟨ki_X6_chance, kq_X6_chance, kn_X6, kc_X6_chance, by decide +kernel, by decide +kernel, by decide +kernel⟩
set_option maxRecDepth 20000 in
set_option maxHeartbeats 4000000 in
theorem m_X6_chance (l : Launch) (G : GG) (F : Nat) (k0 : Nat) (a1 : Int32) (a2 : Int32) (a3 : Int32) (σ : St) : ∀ r, f_X6_chance F k0 a1.toInt a2.toInt a3.toInt σ = some r → MC G l yX6_chance cX6_chance 4 (some .long) { frames := 6, cells := 0, slots := 0, locals := 165 } [.ref (gad G k0), .int a1, .int a2, .int a3] σ (vL r.1) r.2 := by
  refine MC_of (own := RX6) (fun r : Int × St => vL r.1) (fun r : Int × St => r.2) (by decide +kernel) rfl (Nat.le_of_ble_eq_true rfl) ?_
  intro p e s m args below meth c C hr hlo ls hl
  have hl : lv_has ls 4 [(0, .ref (gad G k0)), (1, .int a1), (2, .int a2), (3, .int a3)] := hl
  unfold f_X6_chance
  refine q_ob (fun hk0 => ?_)
  refine q_aload_n C dX6_chance_0 rfl (lv_at hl 0 rfl) ?_
  refine q_iload_n C dX6_chance_1 rfl (lv_at hl 1 rfl) ?_
  refine q_c1i C (fun r h => cr_V (As := [.int a1]) (rest := []) C (m_X6_hasCell l G F k0 a1 σ r h) cb_X6_hasCell hk0 (by decide) rfl (cf_6 hk0 _) rfl kl_X6_114 ⟨Nat.le_of_ble_eq_true rfl, Nat.le_of_ble_eq_true rfl⟩ ⟨Nat.zero_le _, Nat.zero_le _⟩ hl.1 rfl (Nat.le_of_ble_eq_true rfl) dX6_chance_2 rfl) (fun v1 => ?_)
  refine q_if_eq C 25 dX6_chance_5 (by decide) ?_ ?_
  · refine q_ldc2 C kk_X6_332 dX6_chance_25 (by decide) (fun v2 => ?_)
    exact q_lretE C hr hlo dX6_chance_28
  · refine q_aload_n C dX6_chance_8 rfl (lv_at hl 0 rfl) ?_
    refine q_iload_n C dX6_chance_9 rfl (lv_at hl 2 rfl) ?_
    refine q_c1i C (fun r h => cr_V (As := [.int a2]) (rest := []) C (m_X6_hasChances l G F k0 a2 σ r h) cb_X6_hasChances hk0 (by decide) rfl (cf_6 hk0 _) rfl kl_X6_329 ⟨Nat.le_of_ble_eq_true rfl, Nat.le_of_ble_eq_true rfl⟩ ⟨Nat.zero_le _, Nat.zero_le _⟩ hl.1 rfl (Nat.le_of_ble_eq_true rfl) dX6_chance_10 rfl) (fun v3 => ?_)
    refine q_if_eq C 25 dX6_chance_13 (by decide) ?_ ?_
    · refine q_ldc2 C kk_X6_332 dX6_chance_25 (by decide) (fun v4 => ?_)
      exact q_lretE C hr hlo dX6_chance_28
    · refine q_iload_n C dX6_chance_16 rfl (lv_at hl 3 rfl) ?_
      refine q_if_lt C 25 dX6_chance_17 (by decide) ?_ ?_
      · refine q_ldc2 C kk_X6_332 dX6_chance_25 (by decide) (fun v5 => ?_)
        exact q_lretE C hr hlo dX6_chance_28
      · refine q_iload_n C dX6_chance_20 rfl (lv_at hl 3 rfl) ?_
        refine q_iconst C dX6_chance_21 rfl (by decide) (fun v6 => ?_)
        refine q_icmp_le C 29 dX6_chance_22 (by decide) ?_ ?_
        · refine q_aload_n C dX6_chance_29 rfl (lv_at hl 0 rfl) ?_
          refine q_iload_n C dX6_chance_30 rfl (lv_at hl 2 rfl) ?_
          refine q_iconst C dX6_chance_31 rfl (by decide) (fun v7 => ?_)
          refine q_iload_n C dX6_chance_32 rfl (lv_at hl 1 rfl) ?_
          refine q_ishl C dX6_chance_33 (fun v8 => ?_)
          refine q_c2l C (fun r h => cr_V (As := [.int a2, .int v8]) (rest := []) C (m_X6_weighedDirties l G F k0 a2 v8 σ r h) cb_X6_weighedDirties hk0 (by decide) rfl (cf_6 hk0 _) rfl kl_X6_334 ⟨Nat.le_of_ble_eq_true rfl, Nat.le_of_ble_eq_true rfl⟩ ⟨Nat.zero_le _, Nat.zero_le _⟩ hl.1 rfl (Nat.le_of_ble_eq_true rfl) dX6_chance_34 rfl) (fun v9 σ1 => ?_)
          refine q_bipush C dX6_chance_37 rfl (by decide) (fun v10 => ?_)
          refine q_iload_n C dX6_chance_39 rfl (lv_at hl 2 rfl) ?_
          refine q_c1l C (fun r h => cr_S (As := [.int v10, .int a2]) (rest := [.long v9]) C (m_X6_power l G F v10 a2 σ1 r h) sb_X6_power kl_X6_338 ⟨Nat.le_of_ble_eq_true rfl, Nat.le_of_ble_eq_true rfl⟩ ⟨Nat.zero_le _, Nat.zero_le _⟩ hl.1 rfl (Nat.le_of_ble_eq_true rfl) dX6_chance_40 rfl) (fun v11 => ?_)
          refine q_iload_n C dX6_chance_43 rfl (lv_at hl 3 rfl) ?_
          refine q_c1l C (fun r h => cr_S (As := [.long v9, .long v11, .int a3]) (rest := []) C (m_X6_lowest l G F v9 v11 a3 σ1 r h) sb_X6_lowest kl_X6_318 ⟨Nat.le_of_ble_eq_true rfl, Nat.le_of_ble_eq_true rfl⟩ ⟨Nat.zero_le _, Nat.zero_le _⟩ hl.1 rfl (Nat.le_of_ble_eq_true rfl) dX6_chance_44 rfl) (fun v12 => ?_)
          exact q_lretE C hr hlo dX6_chance_47
        · refine q_ldc2 C kk_X6_332 dX6_chance_25 (by decide) (fun v13 => ?_)
          exact q_lretE C hr hlo dX6_chance_28
def f_X6_mean (F : Nat) (k0 : Nat) (a1 : Int) (a2 : Int) (σ : St) : Option (Int × St) :=
  z_ob 6 k0 <| 
  z_c1 (f_X6_hasChances F k0 a1 σ) fun v1 =>
  if v1 = 0 then (
    z_gt (-2) fun v2 =>
    some (v2, σ))
  else (
    if a2 < 0 then (
      z_gt (-2) fun v3 =>
      some (v3, σ))
    else (
      z_gt 1 fun v4 =>
      if a2 ≤ v4 then (
        z_gt (-1) fun v5 =>
        z_c2 (f_X6_weighedDirties F k0 a1 v5 σ) fun v6 σ1 =>
        z_gt 10 fun v7 =>
        z_c1 (f_X6_power F v7 a1 σ1) fun v8 =>
        z_c1 (f_X6_lowest F v6 v8 a2 σ1) fun v9 =>
        some (v9, σ1))
      else (
        z_gt (-2) fun v10 =>
        some (v10, σ))))
theorem cb_X6_mean : CB yX6_mean cX6_mean 3 (some .long) 2 := ⟨ki_X6_mean, kq_X6_mean, kn_X6, kc_X6_mean, by decide +kernel, by decide +kernel, by decide +kernel⟩
set_option maxRecDepth 20000 in
set_option maxHeartbeats 4000000 in
theorem m_X6_mean (l : Launch) (G : GG) (F : Nat) (k0 : Nat) (a1 : Int32) (a2 : Int32) (σ : St) : ∀ r, f_X6_mean F k0 a1.toInt a2.toInt σ = some r → MC G l yX6_mean cX6_mean 3 (some .long) { frames := 6, cells := 0, slots := 0, locals := 165 } [.ref (gad G k0), .int a1, .int a2] σ (vL r.1) r.2 := by
  refine MC_of (own := RX6) (fun r : Int × St => vL r.1) (fun r : Int × St => r.2) (by decide +kernel) rfl (Nat.le_of_ble_eq_true rfl) ?_
  intro p e s m args below meth c C hr hlo ls hl
  have hl : lv_has ls 3 [(0, .ref (gad G k0)), (1, .int a1), (2, .int a2)] := hl
  unfold f_X6_mean
  refine q_ob (fun hk0 => ?_)
  refine q_aload_n C dX6_mean_0 rfl (lv_at hl 0 rfl) ?_
  refine q_iload_n C dX6_mean_1 rfl (lv_at hl 1 rfl) ?_
  refine q_c1i C (fun r h => cr_V (As := [.int a1]) (rest := []) C (m_X6_hasChances l G F k0 a1 σ r h) cb_X6_hasChances hk0 (by decide) rfl (cf_6 hk0 _) rfl kl_X6_329 ⟨Nat.le_of_ble_eq_true rfl, Nat.le_of_ble_eq_true rfl⟩ ⟨Nat.zero_le _, Nat.zero_le _⟩ hl.1 rfl (Nat.le_of_ble_eq_true rfl) dX6_mean_2 rfl) (fun v1 => ?_)
  refine q_if_eq C 17 dX6_mean_5 (by decide) ?_ ?_
  · refine q_ldc2 C kk_X6_332 dX6_mean_17 (by decide) (fun v2 => ?_)
    exact q_lretE C hr hlo dX6_mean_20
  · refine q_iload_n C dX6_mean_8 rfl (lv_at hl 2 rfl) ?_
    refine q_if_lt C 17 dX6_mean_9 (by decide) ?_ ?_
    · refine q_ldc2 C kk_X6_332 dX6_mean_17 (by decide) (fun v3 => ?_)
      exact q_lretE C hr hlo dX6_mean_20
    · refine q_iload_n C dX6_mean_12 rfl (lv_at hl 2 rfl) ?_
      refine q_iconst C dX6_mean_13 rfl (by decide) (fun v4 => ?_)
      refine q_icmp_le C 21 dX6_mean_14 (by decide) ?_ ?_
      · refine q_aload_n C dX6_mean_21 rfl (lv_at hl 0 rfl) ?_
        refine q_iload_n C dX6_mean_22 rfl (lv_at hl 1 rfl) ?_
        refine q_iconst C dX6_mean_23 rfl (by decide) (fun v5 => ?_)
        refine q_c2l C (fun r h => cr_V (As := [.int a1, .int v5]) (rest := []) C (m_X6_weighedDirties l G F k0 a1 v5 σ r h) cb_X6_weighedDirties hk0 (by decide) rfl (cf_6 hk0 _) rfl kl_X6_334 ⟨Nat.le_of_ble_eq_true rfl, Nat.le_of_ble_eq_true rfl⟩ ⟨Nat.zero_le _, Nat.zero_le _⟩ hl.1 rfl (Nat.le_of_ble_eq_true rfl) dX6_mean_24 rfl) (fun v6 σ1 => ?_)
        refine q_bipush C dX6_mean_27 rfl (by decide) (fun v7 => ?_)
        refine q_iload_n C dX6_mean_29 rfl (lv_at hl 1 rfl) ?_
        refine q_c1l C (fun r h => cr_S (As := [.int v7, .int a1]) (rest := [.long v6]) C (m_X6_power l G F v7 a1 σ1 r h) sb_X6_power kl_X6_338 ⟨Nat.le_of_ble_eq_true rfl, Nat.le_of_ble_eq_true rfl⟩ ⟨Nat.zero_le _, Nat.zero_le _⟩ hl.1 rfl (Nat.le_of_ble_eq_true rfl) dX6_mean_30 rfl) (fun v8 => ?_)
        refine q_iload_n C dX6_mean_33 rfl (lv_at hl 2 rfl) ?_
        refine q_c1l C (fun r h => cr_S (As := [.long v6, .long v8, .int a2]) (rest := []) C (m_X6_lowest l G F v6 v8 a2 σ1 r h) sb_X6_lowest kl_X6_318 ⟨Nat.le_of_ble_eq_true rfl, Nat.le_of_ble_eq_true rfl⟩ ⟨Nat.zero_le _, Nat.zero_le _⟩ hl.1 rfl (Nat.le_of_ble_eq_true rfl) dX6_mean_34 rfl) (fun v9 => ?_)
        exact q_lretE C hr hlo dX6_mean_37
      · refine q_ldc2 C kk_X6_332 dX6_mean_17 (by decide) (fun v10 => ?_)
        exact q_lretE C hr hlo dX6_mean_20
def f_X6_areNumbersOf_J108 (F : Nat) (k0 : Nat) (a1 : Int) (a2 : Int) (a3 : Int) (a4 : Int)  (σ : St) (x12 : Int) (x13 : Int) (x14 : Int)  : Option (Int) :=
  if x12 = 0 then (
    z_gt 0 fun v15 =>
    z_bo v15 <| some v15)
  else (
    if x13 = 0 then (
      z_gt 0 fun v16 =>
      z_bo v16 <| some v16)
    else (
      if x14 = 0 then (
        z_gt 0 fun v17 =>
        z_bo v17 <| some v17)
      else (
        z_gt 1 fun v18 =>
        z_bo v18 <| some v18)))

def f_X6_areNumbersOf_J72 (F : Nat) (k0 : Nat) (a1 : Int) (a2 : Int) (a3 : Int) (a4 : Int)  (σ : St) (x7 : Int) (x8 : Int) (x9 : Int)  : Option (Int) :=
  z_gt 2 fun v10 =>
  if x7 ≤ v10 then (
    if ¬ a4 = 0 then (
      z_gt 0 fun v11 =>
      f_X6_areNumbersOf_J108 F k0 a1 a2 a3 a4 σ x8 x9 v11)
    else (
      z_gt 1 fun v19 =>
      f_X6_areNumbersOf_J108 F k0 a1 a2 a3 a4 σ x8 x9 v19))
  else (
    z_gt (σ (k0 + 4) 0) fun v20 =>
    z_gt 2 fun v21 =>
    z_c1 (f_X6_fits F v20 a1 v21 a4 a2 σ) fun v22 =>
    f_X6_areNumbersOf_J108 F k0 a1 a2 a3 a4 σ x8 x9 v22)

def f_X6_areNumbersOf_J38 (F : Nat) (k0 : Nat) (a1 : Int) (a2 : Int) (a3 : Int) (a4 : Int)  (σ : St) (x3 : Int) (x4 : Int)  : Option (Int) :=
  z_gt 1 fun v5 =>
  if x3 ≤ v5 then (
    if ¬ a3 = 0 then (
      z_gt 0 fun v6 =>
      f_X6_areNumbersOf_J72 F k0 a1 a2 a3 a4 σ x3 x4 v6)
    else (
      z_gt 1 fun v23 =>
      f_X6_areNumbersOf_J72 F k0 a1 a2 a3 a4 σ x3 x4 v23))
  else (
    z_gt (σ (k0 + 4) 0) fun v24 =>
    z_gt 1 fun v25 =>
    z_c1 (f_X6_fits F v24 a1 v25 a3 a2 σ) fun v26 =>
    f_X6_areNumbersOf_J72 F k0 a1 a2 a3 a4 σ x3 x4 v26)

def f_X6_areNumbersOf (F : Nat) (k0 : Nat) (a1 : Int) (a2 : Int) (a3 : Int) (a4 : Int) (σ : St) : Option (Int) :=
  z_ob 6 k0 <| 
  z_ix a1 9 <| z_gt (z_nk a1) fun v1 =>
  if v1 ≤ 0 then (
    if ¬ a2 = 0 then (
      z_gt 0 fun v2 =>
      f_X6_areNumbersOf_J38 F k0 a1 a2 a3 a4 σ v1 v2)
    else (
      z_gt 1 fun v27 =>
      f_X6_areNumbersOf_J38 F k0 a1 a2 a3 a4 σ v1 v27))
  else (
    z_gt (σ (k0 + 4) 0) fun v28 =>
    z_gt 0 fun v29 =>
    z_c1 (f_X6_fits F v28 a1 v29 a2 a2 σ) fun v30 =>
    f_X6_areNumbersOf_J38 F k0 a1 a2 a3 a4 σ v1 v30)
theorem cb_X6_areNumbersOf : CB yX6_areNumbersOf cX6_areNumbersOf 9 (some .boolean) 4 := ⟨ki_X6_areNumbersOf, kq_X6_areNumbersOf, kn_X6, kc_X6_areNumbersOf, by decide +kernel, by decide +kernel, by decide +kernel⟩
set_option maxRecDepth 20000 in
set_option maxHeartbeats 4000000 in
theorem m_X6_areNumbersOf (l : Launch) (G : GG) (F : Nat) (k0 : Nat) (a1 : Int32) (a2 : Int32) (a3 : Int32) (a4 : Int32) (σ : St) : ∀ r, f_X6_areNumbersOf F k0 a1.toInt a2.toInt a3.toInt a4.toInt σ = some r → MC G l yX6_areNumbersOf cX6_areNumbersOf 9 (some .boolean) { frames := 1, cells := 0, slots := 0, locals := 24 } [.ref (gad G k0), .int a1, .int a2, .int a3, .int a4] σ (vI r) σ := by
  refine MC_of (own := RX6) (vI) (fun _ => σ) (by decide +kernel) rfl (Nat.le_of_ble_eq_true rfl) ?_
  intro p e s m args below meth c C hr hlo ls hl
  have hl : lv_has ls 9 [(0, .ref (gad G k0)), (1, .int a1), (2, .int a2), (3, .int a3), (4, .int a4)] := hl
  unfold f_X6_areNumbersOf
  refine q_ob (fun hk0 => ?_)
  have B108 : ∀  (x12 : Int32) (x13 : Int32) (x14 : Int32) (ls : Array Slot), lv_has ls 9 [(6, .int x12), (7, .int x13)] → Sim G (AG G) 0 0 p l e { frames := 1, cells := 0, slots := 0, locals := 24 } s m args below meth c (fun r : Int => MQ below (QC G (vI r) (σ)) args s 0 0 (AG G)) σ (f_X6_areNumbersOf_J108 F k0 a1.toInt a2.toInt a3.toInt a4.toInt  σ  x12.toInt x13.toInt x14.toInt) (F0 m 108 ls [.int x14]) := by
    intro x12 x13 x14 ls hl
    unfold f_X6_areNumbersOf_J108
    refine q_istore C [(8, .int x14), (6, .int x12), (7, .int x13)] dX6_areNumbersOf_108 hl (by decide) rfl (fun ls hl => ?_)
    refine q_iload C dX6_areNumbersOf_110 (lv_at hl 1 rfl) ?_
    refine q_if_eq C 129 dX6_areNumbersOf_112 (by decide) ?_ ?_
    · refine q_iconst C dX6_areNumbersOf_129 rfl (by decide) (fun v15 => ?_)
      exact q_zret C hr hlo dX6_areNumbersOf_130
    · refine q_iload C dX6_areNumbersOf_115 (lv_at hl 2 rfl) ?_
      refine q_if_eq C 129 dX6_areNumbersOf_117 (by decide) ?_ ?_
      · refine q_iconst C dX6_areNumbersOf_129 rfl (by decide) (fun v16 => ?_)
        exact q_zret C hr hlo dX6_areNumbersOf_130
      · refine q_iload C dX6_areNumbersOf_120 (lv_at hl 0 rfl) ?_
        refine q_if_eq C 129 dX6_areNumbersOf_122 (by decide) ?_ ?_
        · refine q_iconst C dX6_areNumbersOf_129 rfl (by decide) (fun v17 => ?_)
          exact q_zret C hr hlo dX6_areNumbersOf_130
        · refine q_iconst C dX6_areNumbersOf_125 rfl (by decide) (fun v18 => ?_)
          refine q_goto C 130 dX6_areNumbersOf_126 (by decide) ?_
          exact q_zret C hr hlo dX6_areNumbersOf_130
  have B72 : ∀  (x7 : Int32) (x8 : Int32) (x9 : Int32) (ls : Array Slot), lv_has ls 9 [(0, .ref (gad G k0)), (1, .int a1), (2, .int a2), (4, .int a4), (5, .int x7), (6, .int x8)] → Sim G (AG G) 0 0 p l e { frames := 1, cells := 0, slots := 0, locals := 24 } s m args below meth c (fun r : Int => MQ below (QC G (vI r) (σ)) args s 0 0 (AG G)) σ (f_X6_areNumbersOf_J72 F k0 a1.toInt a2.toInt a3.toInt a4.toInt  σ  x7.toInt x8.toInt x9.toInt) (F0 m 72 ls [.int x9]) := by
    intro x7 x8 x9 ls hl
    unfold f_X6_areNumbersOf_J72
    refine q_istore C [(7, .int x9), (0, .ref (gad G k0)), (1, .int a1), (2, .int a2), (4, .int a4), (5, .int x7), (6, .int x8)] dX6_areNumbersOf_72 hl (by decide) rfl (fun ls hl => ?_)
    refine q_iload C dX6_areNumbersOf_74 (lv_at hl 5 rfl) ?_
    refine q_iconst C dX6_areNumbersOf_76 rfl (by decide) (fun v10 => ?_)
    refine q_icmp_le C 98 dX6_areNumbersOf_77 (by decide) ?_ ?_
    · refine q_iload C dX6_areNumbersOf_98 (lv_at hl 4 rfl) ?_
      refine q_if_ne C 107 dX6_areNumbersOf_100 (by decide) ?_ ?_
      · refine q_iconst C dX6_areNumbersOf_107 rfl (by decide) (fun v11 => ?_)
        exact B108 x8 x9 v11 ls (lv_sub hl [6, 0] rfl)
      · refine q_iconst C dX6_areNumbersOf_103 rfl (by decide) (fun v19 => ?_)
        refine q_goto C 108 dX6_areNumbersOf_104 (by decide) ?_
        exact B108 x8 x9 v19 ls (lv_sub hl [6, 0] rfl)
    · refine q_aload_n C dX6_areNumbersOf_80 rfl (lv_at hl 1 rfl) ?_
      refine g_6_1 C hk0 kf_X6_19 dX6_areNumbersOf_81 ?_
      refine g_4_0 C (yk_6_1 hk0) kf_X6_226 dX6_areNumbersOf_84 (fun v20 => ?_)
      refine q_iload_n C dX6_areNumbersOf_87 rfl (lv_at hl 2 rfl) ?_
      refine q_iconst C dX6_areNumbersOf_88 rfl (by decide) (fun v21 => ?_)
      refine q_iload C dX6_areNumbersOf_89 (lv_at hl 4 rfl) ?_
      refine q_iload_n C dX6_areNumbersOf_91 rfl (lv_at hl 3 rfl) ?_
      refine q_c1i C (fun r h => cr_S (As := [.int v20, .int a1, .int v21, .int a4, .int a2]) (rest := []) C (m_X6_fits l G F v20 a1 v21 a4 a2 σ r h) sb_X6_fits kl_X6_358 ⟨Nat.le_of_ble_eq_true rfl, Nat.le_of_ble_eq_true rfl⟩ ⟨Nat.zero_le _, Nat.zero_le _⟩ hl.1 rfl (Nat.le_of_ble_eq_true rfl) dX6_areNumbersOf_92 rfl) (fun v22 => ?_)
      refine q_goto C 108 dX6_areNumbersOf_95 (by decide) ?_
      exact B108 x8 x9 v22 ls (lv_sub hl [6, 0] rfl)
  have B38 : ∀  (x3 : Int32) (x4 : Int32) (ls : Array Slot), lv_has ls 9 [(0, .ref (gad G k0)), (1, .int a1), (2, .int a2), (3, .int a3), (4, .int a4), (5, .int x3)] → Sim G (AG G) 0 0 p l e { frames := 1, cells := 0, slots := 0, locals := 24 } s m args below meth c (fun r : Int => MQ below (QC G (vI r) (σ)) args s 0 0 (AG G)) σ (f_X6_areNumbersOf_J38 F k0 a1.toInt a2.toInt a3.toInt a4.toInt  σ  x3.toInt x4.toInt) (F0 m 38 ls [.int x4]) := by
    intro x3 x4 ls hl
    unfold f_X6_areNumbersOf_J38
    refine q_istore C [(6, .int x4), (0, .ref (gad G k0)), (1, .int a1), (2, .int a2), (3, .int a3), (4, .int a4), (5, .int x3)] dX6_areNumbersOf_38 hl (by decide) rfl (fun ls hl => ?_)
    refine q_iload C dX6_areNumbersOf_40 (lv_at hl 6 rfl) ?_
    refine q_iconst C dX6_areNumbersOf_42 rfl (by decide) (fun v5 => ?_)
    refine q_icmp_le C 63 dX6_areNumbersOf_43 (by decide) ?_ ?_
    · refine q_iload_n C dX6_areNumbersOf_63 rfl (lv_at hl 4 rfl) ?_
      refine q_if_ne C 71 dX6_areNumbersOf_64 (by decide) ?_ ?_
      · refine q_iconst C dX6_areNumbersOf_71 rfl (by decide) (fun v6 => ?_)
        exact B72 x3 x4 v6 ls (lv_sub hl [1, 2, 3, 5, 6, 0] rfl)
      · refine q_iconst C dX6_areNumbersOf_67 rfl (by decide) (fun v23 => ?_)
        refine q_goto C 72 dX6_areNumbersOf_68 (by decide) ?_
        exact B72 x3 x4 v23 ls (lv_sub hl [1, 2, 3, 5, 6, 0] rfl)
    · refine q_aload_n C dX6_areNumbersOf_46 rfl (lv_at hl 1 rfl) ?_
      refine g_6_1 C hk0 kf_X6_19 dX6_areNumbersOf_47 ?_
      refine g_4_0 C (yk_6_1 hk0) kf_X6_226 dX6_areNumbersOf_50 (fun v24 => ?_)
      refine q_iload_n C dX6_areNumbersOf_53 rfl (lv_at hl 2 rfl) ?_
      refine q_iconst C dX6_areNumbersOf_54 rfl (by decide) (fun v25 => ?_)
      refine q_iload_n C dX6_areNumbersOf_55 rfl (lv_at hl 4 rfl) ?_
      refine q_iload_n C dX6_areNumbersOf_56 rfl (lv_at hl 3 rfl) ?_
      refine q_c1i C (fun r h => cr_S (As := [.int v24, .int a1, .int v25, .int a3, .int a2]) (rest := []) C (m_X6_fits l G F v24 a1 v25 a3 a2 σ r h) sb_X6_fits kl_X6_358 ⟨Nat.le_of_ble_eq_true rfl, Nat.le_of_ble_eq_true rfl⟩ ⟨Nat.zero_le _, Nat.zero_le _⟩ hl.1 rfl (Nat.le_of_ble_eq_true rfl) dX6_areNumbersOf_57 rfl) (fun v26 => ?_)
      refine q_goto C 72 dX6_areNumbersOf_60 (by decide) ?_
      exact B72 x3 x4 v26 ls (lv_sub hl [1, 2, 3, 5, 6, 0] rfl)
  refine q_gnk C kf_X6_355 dX6_areNumbersOf_0 ?_
  refine q_iload_n C dX6_areNumbersOf_3 rfl (lv_at hl 1 rfl) ?_
  refine q_nkld C dX6_areNumbersOf_4 (fun v1 => ?_)
  refine q_istore C [(5, .int v1), (0, .ref (gad G k0)), (1, .int a1), (2, .int a2), (3, .int a3), (4, .int a4)] dX6_areNumbersOf_5 hl (by decide) rfl (fun ls hl => ?_)
  refine q_iload C dX6_areNumbersOf_7 (lv_at hl 0 rfl) ?_
  refine q_if_le C 29 dX6_areNumbersOf_9 (by decide) ?_ ?_
  · refine q_iload_n C dX6_areNumbersOf_29 rfl (lv_at hl 3 rfl) ?_
    refine q_if_ne C 37 dX6_areNumbersOf_30 (by decide) ?_ ?_
    · refine q_iconst C dX6_areNumbersOf_37 rfl (by decide) (fun v2 => ?_)
      exact B38 v1 v2 ls (lv_sub hl [1, 2, 3, 4, 5, 0] rfl)
    · refine q_iconst C dX6_areNumbersOf_33 rfl (by decide) (fun v27 => ?_)
      refine q_goto C 38 dX6_areNumbersOf_34 (by decide) ?_
      exact B38 v1 v27 ls (lv_sub hl [1, 2, 3, 4, 5, 0] rfl)
  · refine q_aload_n C dX6_areNumbersOf_12 rfl (lv_at hl 1 rfl) ?_
    refine g_6_1 C hk0 kf_X6_19 dX6_areNumbersOf_13 ?_
    refine g_4_0 C (yk_6_1 hk0) kf_X6_226 dX6_areNumbersOf_16 (fun v28 => ?_)
    refine q_iload_n C dX6_areNumbersOf_19 rfl (lv_at hl 2 rfl) ?_
    refine q_iconst C dX6_areNumbersOf_20 rfl (by decide) (fun v29 => ?_)
    refine q_iload_n C dX6_areNumbersOf_21 rfl (lv_at hl 3 rfl) ?_
    refine q_iload_n C dX6_areNumbersOf_22 rfl (lv_at hl 3 rfl) ?_
    refine q_c1i C (fun r h => cr_S (As := [.int v28, .int a1, .int v29, .int a2, .int a2]) (rest := []) C (m_X6_fits l G F v28 a1 v29 a2 a2 σ r h) sb_X6_fits kl_X6_358 ⟨Nat.le_of_ble_eq_true rfl, Nat.le_of_ble_eq_true rfl⟩ ⟨Nat.zero_le _, Nat.zero_le _⟩ hl.1 rfl (Nat.le_of_ble_eq_true rfl) dX6_areNumbersOf_23 rfl) (fun v30 => ?_)
    refine q_goto C 38 dX6_areNumbersOf_26 (by decide) ?_
    exact B38 v1 v30 ls (lv_sub hl [1, 2, 3, 4, 5, 0] rfl)
def f_X6_does (F : Nat) (k0 : Nat) (a1 : Int) (a2 : Int) (a3 : Int) (a4 : Int) (σ : St) : Option (Int × St) :=
  z_ob 6 k0 <| 
  z_c1 (f_X4_exists F (k0 + 4) σ) fun v1 =>
  if v1 = 0 then (
    z_gt (-2) fun v2 =>
    some (v2, σ))
  else (
    if a1 < 0 then (
      z_gt (-2) fun v3 =>
      some (v3, σ))
    else (
      z_gt 9 fun v4 =>
      if v4 ≤ a1 then (
        z_gt (-2) fun v5 =>
        some (v5, σ))
      else (
        z_c1 (f_X6_areNumbersOf F k0 a1 a2 a3 a4 σ) fun v6 =>
        if ¬ v6 = 0 then (
          z_gt (σ (k0 + 4) 4) fun v7 =>
          z_gt 20 fun v8 =>
          if v7 < v8 then (
            z_c1 (f_X4_putEvent F (k0 + 4) a1 a2 a3 a4 σ) fun σ1 =>
            z_gt (σ1 (k0 + 4) 4) fun v9 =>
            z_gt 1 fun v10 =>
            z_ck (v9 + v10) fun v11 =>
            z_sg (z_up σ1 (k0 + 4) 4 v11) fun σ2 =>
            z_c1 (f_X4_size F (k0 + 4) σ2) fun v12 =>
            z_c1 (f_X6_playTo F k0 v12 σ2) fun σ3 =>
            z_gt (σ3 (k0 + 12) 5) fun v13 =>
            some (v13, σ3))
          else (
            z_gt (-5) fun v14 =>
            some (v14, σ)))
        else (
          z_gt (-2) fun v15 =>
          some (v15, σ)))))
theorem cb_X6_does : CB yX6_does cX6_does 5 (some .int) 4 := ⟨ki_X6_does, kq_X6_does, kn_X6, kc_X6_does, by decide +kernel, by decide +kernel, by decide +kernel⟩
set_option maxRecDepth 20000 in
set_option maxHeartbeats 4000000 in
theorem m_X6_does (l : Launch) (G : GG) (F : Nat) (k0 : Nat) (a1 : Int32) (a2 : Int32) (a3 : Int32) (a4 : Int32) (σ : St) : ∀ r, f_X6_does F k0 a1.toInt a2.toInt a3.toInt a4.toInt σ = some r → MC G l yX6_does cX6_does 5 (some .int) { frames := 5, cells := 0, slots := 0, locals := 134 } [.ref (gad G k0), .int a1, .int a2, .int a3, .int a4] σ (vI r.1) r.2 := by
  refine MC_of (own := RX6) (fun r : Int × St => vI r.1) (fun r : Int × St => r.2) (by decide +kernel) rfl (Nat.le_of_ble_eq_true rfl) ?_
  intro p e s m args below meth c C hr hlo ls hl
  have hl : lv_has ls 5 [(0, .ref (gad G k0)), (1, .int a1), (2, .int a2), (3, .int a3), (4, .int a4)] := hl
  unfold f_X6_does
  refine q_ob (fun hk0 => ?_)
  refine q_aload_n C dX6_does_0 rfl (lv_at hl 0 rfl) ?_
  refine g_6_1 C hk0 kf_X6_19 dX6_does_1 ?_
  refine q_c1i C (fun r h => cr_V (As := []) (rest := []) C (m_X4_exists l G F (k0 + 4) σ r h) cb_X4_exists (yk_6_1 hk0) (by decide) rfl (cf_4 (yk_6_1 hk0) _) rfl kl_X6_245 ⟨Nat.le_of_ble_eq_true rfl, Nat.le_of_ble_eq_true rfl⟩ ⟨Nat.zero_le _, Nat.zero_le _⟩ hl.1 rfl (Nat.le_of_ble_eq_true rfl) dX6_does_4 rfl) (fun v1 => ?_)
  refine q_if_eq C 32 dX6_does_7 (by decide) ?_ ?_
  · refine q_bipush C dX6_does_32 rfl (by decide) (fun v2 => ?_)
    exact q_iretE C hr hlo dX6_does_34
  · refine q_iload_n C dX6_does_10 rfl (lv_at hl 1 rfl) ?_
    refine q_if_lt C 32 dX6_does_11 (by decide) ?_ ?_
    · refine q_bipush C dX6_does_32 rfl (by decide) (fun v3 => ?_)
      exact q_iretE C hr hlo dX6_does_34
    · refine q_iload_n C dX6_does_14 rfl (lv_at hl 1 rfl) ?_
      refine q_bipush C dX6_does_15 rfl (by decide) (fun v4 => ?_)
      refine q_icmp_ge C 32 dX6_does_17 (by decide) ?_ ?_
      · refine q_bipush C dX6_does_32 rfl (by decide) (fun v5 => ?_)
        exact q_iretE C hr hlo dX6_does_34
      · refine q_aload_n C dX6_does_20 rfl (lv_at hl 0 rfl) ?_
        refine q_iload_n C dX6_does_21 rfl (lv_at hl 1 rfl) ?_
        refine q_iload_n C dX6_does_22 rfl (lv_at hl 2 rfl) ?_
        refine q_iload_n C dX6_does_23 rfl (lv_at hl 3 rfl) ?_
        refine q_iload C dX6_does_24 (lv_at hl 4 rfl) ?_
        refine q_c1i C (fun r h => cr_V (As := [.int a1, .int a2, .int a3, .int a4]) (rest := []) C (m_X6_areNumbersOf l G F k0 a1 a2 a3 a4 σ r h) cb_X6_areNumbersOf hk0 (by decide) rfl (cf_6 hk0 _) rfl kl_X6_344 ⟨Nat.le_of_ble_eq_true rfl, Nat.le_of_ble_eq_true rfl⟩ ⟨Nat.zero_le _, Nat.zero_le _⟩ hl.1 rfl (Nat.le_of_ble_eq_true rfl) dX6_does_26 rfl) (fun v6 => ?_)
        refine q_if_ne C 35 dX6_does_29 (by decide) ?_ ?_
        · refine q_aload_n C dX6_does_35 rfl (lv_at hl 0 rfl) ?_
          refine g_6_1 C hk0 kf_X6_19 dX6_does_36 ?_
          refine g_4_4 C (yk_6_1 hk0) kf_X6_348 dX6_does_39 (fun v7 => ?_)
          refine q_bipush C dX6_does_42 rfl (by decide) (fun v8 => ?_)
          refine q_icmp_lt C 50 dX6_does_44 (by decide) ?_ ?_
          · refine q_aload_n C dX6_does_50 rfl (lv_at hl 0 rfl) ?_
            refine g_6_1 C hk0 kf_X6_19 dX6_does_51 ?_
            refine q_iload_n C dX6_does_54 rfl (lv_at hl 1 rfl) ?_
            refine q_iload_n C dX6_does_55 rfl (lv_at hl 2 rfl) ?_
            refine q_iload_n C dX6_does_56 rfl (lv_at hl 3 rfl) ?_
            refine q_iload C dX6_does_57 (lv_at hl 4 rfl) ?_
            refine q_cv C (fun r h => cr_V (As := [.int a1, .int a2, .int a3, .int a4]) (rest := []) C (m_X4_putEvent l G F (k0 + 4) a1 a2 a3 a4 σ r h) cb_X4_putEvent (yk_6_1 hk0) (by decide) rfl (cf_4 (yk_6_1 hk0) _) rfl kl_X6_351 ⟨Nat.le_of_ble_eq_true rfl, Nat.le_of_ble_eq_true rfl⟩ ⟨Nat.zero_le _, Nat.zero_le _⟩ hl.1 rfl (Nat.le_of_ble_eq_true rfl) dX6_does_59 rfl) (fun σ1 => ?_)
            refine q_aload_n C dX6_does_62 rfl (lv_at hl 0 rfl) ?_
            refine g_6_1 C hk0 kf_X6_19 dX6_does_63 ?_
            refine q_dup C dX6_does_66 rfl ?_
            refine g_4_4 C (yk_6_1 hk0) kf_X6_348 dX6_does_67 (fun v9 => ?_)
            refine q_iconst C dX6_does_70 rfl (by decide) (fun v10 => ?_)
            refine q_iadd C dX6_does_71 (fun v11 => ?_)
            refine p_4_4 C (yk_6_1 hk0) kf_X6_348 dX6_does_72 (q_sg (fun σ2 => ?_))
            refine q_aload_n C dX6_does_75 rfl (lv_at hl 0 rfl) ?_
            refine q_aload_n C dX6_does_76 rfl (lv_at hl 0 rfl) ?_
            refine g_6_1 C hk0 kf_X6_19 dX6_does_77 ?_
            refine q_c1i C (fun r h => cr_V (As := []) (rest := [.ref (gad G k0)]) C (m_X4_size l G F (k0 + 4) σ2 r h) cb_X4_size (yk_6_1 hk0) (by decide) rfl (cf_4 (yk_6_1 hk0) _) rfl kl_X6_249 ⟨Nat.le_of_ble_eq_true rfl, Nat.le_of_ble_eq_true rfl⟩ ⟨Nat.zero_le _, Nat.zero_le _⟩ hl.1 rfl (Nat.le_of_ble_eq_true rfl) dX6_does_80 rfl) (fun v12 => ?_)
            refine q_cv C (fun r h => cr_V (As := [.int v12]) (rest := []) C (m_X6_playTo l G F k0 v12 σ2 r h) cb_X6_playTo hk0 (by decide) rfl (cf_6 hk0 _) rfl kl_X6_108 ⟨Nat.le_of_ble_eq_true rfl, Nat.le_of_ble_eq_true rfl⟩ ⟨Nat.zero_le _, Nat.zero_le _⟩ hl.1 rfl (Nat.le_of_ble_eq_true rfl) dX6_does_83 rfl) (fun σ3 => ?_)
            refine q_aload_n C dX6_does_86 rfl (lv_at hl 0 rfl) ?_
            refine g_6_5 C hk0 kf_X6_39 dX6_does_87 ?_
            refine g_3_5 C (yk_6_5 hk0) kf_X6_111 dX6_does_90 (fun v13 => ?_)
            exact q_iretE C hr hlo dX6_does_93
          · refine q_bipush C dX6_does_47 rfl (by decide) (fun v14 => ?_)
            exact q_iretE C hr hlo dX6_does_49
        · refine q_bipush C dX6_does_32 rfl (by decide) (fun v15 => ?_)
          exact q_iretE C hr hlo dX6_does_34
def f_X6_undo (F : Nat) (k0 : Nat) (σ : St) : Option (Int × St) :=
  z_ob 6 k0 <| 
  z_c1 (f_X4_exists F (k0 + 4) σ) fun v1 =>
  if ¬ v1 = 0 then (
    z_gt (σ (k0 + 4) 4) fun v2 =>
    if ¬ v2 = 0 then (
      z_gt (σ (k0 + 4) 4) fun v3 =>
      z_gt 1 fun v4 =>
      z_ck (v3 - v4) fun v5 =>
      z_sg (z_up σ (k0 + 4) 4 v5) fun σ1 =>
      z_c1 (f_X6_playAnew F k0 σ1) fun σ2 =>
      z_gt (σ2 (k0 + 4) 4) fun v6 =>
      some (v6, σ2))
    else (
      z_gt (-5) fun v7 =>
      some (v7, σ)))
  else (
    z_gt (-2) fun v8 =>
    some (v8, σ))
theorem cb_X6_undo : CB yX6_undo cX6_undo 1 (some .int) 0 := ⟨ki_X6_undo, kq_X6_undo, kn_X6, kc_X6_undo, by decide +kernel, by decide +kernel, by decide +kernel⟩
set_option maxRecDepth 20000 in
set_option maxHeartbeats 4000000 in
theorem m_X6_undo (l : Launch) (G : GG) (F : Nat) (k0 : Nat) (σ : St) : ∀ r, f_X6_undo F k0 σ = some r → MC G l yX6_undo cX6_undo 1 (some .int) { frames := 4, cells := 0, slots := 0, locals := 108 } [.ref (gad G k0)] σ (vI r.1) r.2 := by
  refine MC_of (own := RX6) (fun r : Int × St => vI r.1) (fun r : Int × St => r.2) (by decide +kernel) rfl (Nat.le_of_ble_eq_true rfl) ?_
  intro p e s m args below meth c C hr hlo ls hl
  have hl : lv_has ls 1 [(0, .ref (gad G k0))] := hl
  unfold f_X6_undo
  refine q_ob (fun hk0 => ?_)
  refine q_aload_n C dX6_undo_0 rfl (lv_at hl 0 rfl) ?_
  refine g_6_1 C hk0 kf_X6_19 dX6_undo_1 ?_
  refine q_c1i C (fun r h => cr_V (As := []) (rest := []) C (m_X4_exists l G F (k0 + 4) σ r h) cb_X4_exists (yk_6_1 hk0) (by decide) rfl (cf_4 (yk_6_1 hk0) _) rfl kl_X6_245 ⟨Nat.le_of_ble_eq_true rfl, Nat.le_of_ble_eq_true rfl⟩ ⟨Nat.zero_le _, Nat.zero_le _⟩ hl.1 rfl (Nat.le_of_ble_eq_true rfl) dX6_undo_4 rfl) (fun v1 => ?_)
  refine q_if_ne C 13 dX6_undo_7 (by decide) ?_ ?_
  · refine q_aload_n C dX6_undo_13 rfl (lv_at hl 0 rfl) ?_
    refine g_6_1 C hk0 kf_X6_19 dX6_undo_14 ?_
    refine g_4_4 C (yk_6_1 hk0) kf_X6_348 dX6_undo_17 (fun v2 => ?_)
    refine q_if_ne C 26 dX6_undo_20 (by decide) ?_ ?_
    · refine q_aload_n C dX6_undo_26 rfl (lv_at hl 0 rfl) ?_
      refine g_6_1 C hk0 kf_X6_19 dX6_undo_27 ?_
      refine q_dup C dX6_undo_30 rfl ?_
      refine g_4_4 C (yk_6_1 hk0) kf_X6_348 dX6_undo_31 (fun v3 => ?_)
      refine q_iconst C dX6_undo_34 rfl (by decide) (fun v4 => ?_)
      refine q_isub C dX6_undo_35 (fun v5 => ?_)
      refine p_4_4 C (yk_6_1 hk0) kf_X6_348 dX6_undo_36 (q_sg (fun σ1 => ?_))
      refine q_aload_n C dX6_undo_39 rfl (lv_at hl 0 rfl) ?_
      refine q_cv C (fun r h => cr_V (As := []) (rest := []) C (m_X6_playAnew l G F k0 σ1 r h) cb_X6_playAnew hk0 (by decide) rfl (cf_6 hk0 _) rfl kl_X6_84 ⟨Nat.le_of_ble_eq_true rfl, Nat.le_of_ble_eq_true rfl⟩ ⟨Nat.zero_le _, Nat.zero_le _⟩ hl.1 rfl (Nat.le_of_ble_eq_true rfl) dX6_undo_40 rfl) (fun σ2 => ?_)
      refine q_aload_n C dX6_undo_43 rfl (lv_at hl 0 rfl) ?_
      refine g_6_1 C hk0 kf_X6_19 dX6_undo_44 ?_
      refine g_4_4 C (yk_6_1 hk0) kf_X6_348 dX6_undo_47 (fun v6 => ?_)
      exact q_iretE C hr hlo dX6_undo_50
    · refine q_bipush C dX6_undo_23 rfl (by decide) (fun v7 => ?_)
      exact q_iretE C hr hlo dX6_undo_25
  · refine q_bipush C dX6_undo_10 rfl (by decide) (fun v8 => ?_)
    exact q_iretE C hr hlo dX6_undo_12
def f_X6_anew (F : Nat) (k0 : Nat) (σ : St) : Option (Int × St) :=
  z_ob 6 k0 <| 
  z_c1 (f_X4_exists F (k0 + 4) σ) fun v1 =>
  if ¬ v1 = 0 then (
    z_gt (σ (k0 + 4) 4) fun v2 =>
    z_gt 0 fun v3 =>
    z_sg (z_up σ (k0 + 4) 4 v3) fun σ1 =>
    z_c1 (f_X6_playAnew F k0 σ1) fun σ2 =>
    some (v2, σ2))
  else (
    z_gt (-2) fun v4 =>
    some (v4, σ))
theorem cb_X6_anew : CB yX6_anew cX6_anew 2 (some .int) 0 := ⟨ki_X6_anew, kq_X6_anew, kn_X6, kc_X6_anew, by decide +kernel, by decide +kernel, by decide +kernel⟩
set_option maxRecDepth 20000 in
set_option maxHeartbeats 4000000 in
theorem m_X6_anew (l : Launch) (G : GG) (F : Nat) (k0 : Nat) (σ : St) : ∀ r, f_X6_anew F k0 σ = some r → MC G l yX6_anew cX6_anew 2 (some .int) { frames := 4, cells := 0, slots := 0, locals := 108 } [.ref (gad G k0)] σ (vI r.1) r.2 := by
  refine MC_of (own := RX6) (fun r : Int × St => vI r.1) (fun r : Int × St => r.2) (by decide +kernel) rfl (Nat.le_of_ble_eq_true rfl) ?_
  intro p e s m args below meth c C hr hlo ls hl
  have hl : lv_has ls 2 [(0, .ref (gad G k0))] := hl
  unfold f_X6_anew
  refine q_ob (fun hk0 => ?_)
  refine q_aload_n C dX6_anew_0 rfl (lv_at hl 0 rfl) ?_
  refine g_6_1 C hk0 kf_X6_19 dX6_anew_1 ?_
  refine q_c1i C (fun r h => cr_V (As := []) (rest := []) C (m_X4_exists l G F (k0 + 4) σ r h) cb_X4_exists (yk_6_1 hk0) (by decide) rfl (cf_4 (yk_6_1 hk0) _) rfl kl_X6_245 ⟨Nat.le_of_ble_eq_true rfl, Nat.le_of_ble_eq_true rfl⟩ ⟨Nat.zero_le _, Nat.zero_le _⟩ hl.1 rfl (Nat.le_of_ble_eq_true rfl) dX6_anew_4 rfl) (fun v1 => ?_)
  refine q_if_ne C 13 dX6_anew_7 (by decide) ?_ ?_
  · refine q_aload_n C dX6_anew_13 rfl (lv_at hl 0 rfl) ?_
    refine g_6_1 C hk0 kf_X6_19 dX6_anew_14 ?_
    refine g_4_4 C (yk_6_1 hk0) kf_X6_348 dX6_anew_17 (fun v2 => ?_)
    refine q_istore_n C [(1, .int v2), (0, .ref (gad G k0))] dX6_anew_20 rfl hl (by decide) rfl (fun ls hl => ?_)
    refine q_aload_n C dX6_anew_21 rfl (lv_at hl 1 rfl) ?_
    refine g_6_1 C hk0 kf_X6_19 dX6_anew_22 ?_
    refine q_iconst C dX6_anew_25 rfl (by decide) (fun v3 => ?_)
    refine p_4_4 C (yk_6_1 hk0) kf_X6_348 dX6_anew_26 (q_sg (fun σ1 => ?_))
    refine q_aload_n C dX6_anew_29 rfl (lv_at hl 1 rfl) ?_
    refine q_cv C (fun r h => cr_V (As := []) (rest := []) C (m_X6_playAnew l G F k0 σ1 r h) cb_X6_playAnew hk0 (by decide) rfl (cf_6 hk0 _) rfl kl_X6_84 ⟨Nat.le_of_ble_eq_true rfl, Nat.le_of_ble_eq_true rfl⟩ ⟨Nat.zero_le _, Nat.zero_le _⟩ hl.1 rfl (Nat.le_of_ble_eq_true rfl) dX6_anew_30 rfl) (fun σ2 => ?_)
    refine q_iload_n C dX6_anew_33 rfl (lv_at hl 0 rfl) ?_
    exact q_iretE C hr hlo dX6_anew_34
  · refine q_bipush C dX6_anew_10 rfl (by decide) (fun v4 => ?_)
    exact q_iretE C hr hlo dX6_anew_12
def f_X6_isSeed (F : Nat) (a1 : Int) (σ : St) : Option (Int) :=
  
  if a1 < 0 then (
    z_gt 0 fun v1 =>
    z_bo v1 <| some v1)
  else (
    z_gt 2000000000 fun v2 =>
    if v2 < a1 then (
      z_gt 0 fun v3 =>
      z_bo v3 <| some v3)
    else (
      z_gt 1 fun v4 =>
      z_bo v4 <| some v4))
theorem sb_X6_isSeed : SB yX6_isSeed cX6_isSeed 1 (some .boolean) 1 := ⟨ks_X6_isSeed, kn_X6, kc_X6_isSeed, by decide +kernel, by decide +kernel, by decide +kernel⟩
set_option maxRecDepth 20000 in
set_option maxHeartbeats 4000000 in
theorem m_X6_isSeed (l : Launch) (G : GG) (F : Nat) (a1 : Int32) (σ : St) : ∀ r, f_X6_isSeed F a1.toInt σ = some r → MC G l yX6_isSeed cX6_isSeed 1 (some .boolean) { frames := 0, cells := 0, slots := 0, locals := 0 } [.int a1] σ (vI r) σ := by
  refine MC_of (own := RX6) (vI) (fun _ => σ) (by decide +kernel) rfl (Nat.le_of_ble_eq_true rfl) ?_
  intro p e s m args below meth c C hr hlo ls hl
  have hl : lv_has ls 1 [(0, .int a1)] := hl
  unfold f_X6_isSeed
  refine q_iload_n C dX6_isSeed_0 rfl (lv_at hl 0 rfl) ?_
  refine q_if_lt C 15 dX6_isSeed_1 (by decide) ?_ ?_
  · refine q_iconst C dX6_isSeed_15 rfl (by decide) (fun v1 => ?_)
    exact q_zret C hr hlo dX6_isSeed_16
  · refine q_iload_n C dX6_isSeed_4 rfl (lv_at hl 0 rfl) ?_
    refine q_ldcw C kk_X6_413 dX6_isSeed_5 (by decide) (fun v2 => ?_)
    refine q_icmp_gt C 15 dX6_isSeed_8 (by decide) ?_ ?_
    · refine q_iconst C dX6_isSeed_15 rfl (by decide) (fun v3 => ?_)
      exact q_zret C hr hlo dX6_isSeed_16
    · refine q_iconst C dX6_isSeed_11 rfl (by decide) (fun v4 => ?_)
      refine q_goto C 16 dX6_isSeed_12 (by decide) ?_
      exact q_zret C hr hlo dX6_isSeed_16
def f_X6_drawOut_L8 (F : Nat) (k0 : Nat) (a1 : Int)  (σ : St) : Nat → Int → Int → Int → Option (Int)
  | 0, _, _, _ => none
  | n + 1, x3, x4, x5 =>
    z_c1 (f_X4_size F (k0 + 4) σ) fun v6 =>
    if v6 ≤ x5 then (
      some x3)
    else (
      z_gt 1103515245 fun v7 =>
      z_lk (v7 * x4) fun v8 =>
      z_gt 12345 fun v9 =>
      z_lk (v8 + v9) fun v10 =>
      z_gt 2147483648 fun v11 =>
      z_nz v11 <| z_gt (v10.tmod v11) fun v12 =>
      z_gt 65536 fun v13 =>
      z_nz v13 <| z_lk (v12.tdiv v13) fun v14 =>
      z_gt 10 fun v15 =>
      z_nz v15 <| z_gt (v14.tmod v15) fun v16 =>
      z_gt (σ (k0 + 4) 2) fun v17 =>
      z_gt v17 fun v18 =>
      z_gt (z_cmp v16 v18) fun v19 =>
      if 0 ≤ v19 then (
        z_ck (x5 + 1) fun v20 =>
        f_X6_drawOut_L8 F k0 a1 σ n x3 v12 v20)
      else (
        z_gt 1 fun v21 =>
        z_gt (z_lshl v21 x5) fun v22 =>
        z_gt (z_lor x3 v22) fun v23 =>
        z_ck (x5 + 1) fun v24 =>
        f_X6_drawOut_L8 F k0 a1 σ n v23 v12 v24))

def f_X6_drawOut (F : Nat) (k0 : Nat) (a1 : Int) (σ : St) : Option (Int) :=
  z_ob 6 k0 <| 
  z_gt 0 fun v1 =>
  z_gt 0 fun v2 =>
  f_X6_drawOut_L8 F k0 a1 σ F v1 a1 v2
theorem cb_X6_drawOut : CB yX6_drawOut cX6_drawOut 8 (some .long) 1 := ⟨ki_X6_drawOut, kq_X6_drawOut, kn_X6, kc_X6_drawOut, by decide +kernel, by decide +kernel, by decide +kernel⟩
set_option maxRecDepth 20000 in
set_option maxHeartbeats 4000000 in
theorem m_X6_drawOut (l : Launch) (G : GG) (F : Nat) (k0 : Nat) (a1 : Int64) (σ : St) : ∀ r, f_X6_drawOut F k0 a1.toInt σ = some r → MC G l yX6_drawOut cX6_drawOut 8 (some .long) { frames := 1, cells := 0, slots := 0, locals := 20 } [.ref (gad G k0), .long a1] σ (vL r) σ := by
  refine MC_of (own := RX6) (vL) (fun _ => σ) (by decide +kernel) rfl (Nat.le_of_ble_eq_true rfl) ?_
  intro p e s m args below meth c C hr hlo ls hl
  have hl : lv_has ls 8 [(0, .ref (gad G k0)), (1, .long a1)] := hl
  unfold f_X6_drawOut
  refine q_ob (fun hk0 => ?_)
  have B8 : ∀ (n : Nat) (x3 : Int64) (x4 : Int64) (x5 : Int32) (ls : Array Slot), lv_has ls 8 [(0, .ref (gad G k0)), (3, .long x3), (5, .long x4), (7, .int x5)] → Sim G (AG G) 0 0 p l e { frames := 1, cells := 0, slots := 0, locals := 20 } s m args below meth c (fun r : Int => MQ below (QC G (vL r) (σ)) args s 0 0 (AG G)) σ (f_X6_drawOut_L8 F k0 a1.toInt  σ n x3.toInt x4.toInt x5.toInt) (F0 m 8 ls []) := by
    intro n
    induction n with
    | zero =>
      intro x3 x4 x5 ls hl
      exact sim_none
    | succ n ih =>
      intro x3 x4 x5 ls hl
      rw [f_X6_drawOut_L8]
      refine q_iload C dX6_drawOut_8 (lv_at hl 3 rfl) ?_
      refine q_aload_n C dX6_drawOut_10 rfl (lv_at hl 0 rfl) ?_
      refine g_6_1 C hk0 kf_X6_19 dX6_drawOut_11 ?_
      refine q_c1i C (fun r h => cr_V (As := []) (rest := [.int x5]) C (m_X4_size l G F (k0 + 4) σ r h) cb_X4_size (yk_6_1 hk0) (by decide) rfl (cf_4 (yk_6_1 hk0) _) rfl kl_X6_249 ⟨Nat.le_of_ble_eq_true rfl, Nat.le_of_ble_eq_true rfl⟩ ⟨Nat.zero_le _, Nat.zero_le _⟩ hl.1 rfl (Nat.le_of_ble_eq_true rfl) dX6_drawOut_14 rfl) (fun v6 => ?_)
      refine q_icmp_ge C 71 dX6_drawOut_17 (by decide) ?_ ?_
      · refine q_lload_n C dX6_drawOut_71 rfl (lv_at hl 1 rfl) ?_
        exact q_lret C hr hlo dX6_drawOut_72
      · refine q_ldc2 C kk_X6_374 dX6_drawOut_20 (by decide) (fun v7 => ?_)
        refine q_lload C dX6_drawOut_23 (lv_at hl 2 rfl) ?_
        refine q_lmul C dX6_drawOut_25 (fun v8 => ?_)
        refine q_ldc2 C kk_X6_376 dX6_drawOut_26 (by decide) (fun v9 => ?_)
        refine q_ladd C dX6_drawOut_29 (fun v10 => ?_)
        refine q_ldc2 C kk_X6_378 dX6_drawOut_30 (by decide) (fun v11 => ?_)
        refine q_lrem C dX6_drawOut_33 (fun v12 => ?_)
        refine q_lstore C [(5, .long v12), (0, .ref (gad G k0)), (3, .long x3), (7, .int x5)] dX6_drawOut_34 hl (by decide) rfl (fun ls hl => ?_)
        refine q_lload C dX6_drawOut_36 (lv_at hl 0 rfl) ?_
        refine q_ldc2 C kk_X6_380 dX6_drawOut_38 (by decide) (fun v13 => ?_)
        refine q_ldiv C dX6_drawOut_41 (fun v14 => ?_)
        refine q_ldc2 C kk_X6_382 dX6_drawOut_42 (by decide) (fun v15 => ?_)
        refine q_lrem C dX6_drawOut_45 (fun v16 => ?_)
        refine q_aload_n C dX6_drawOut_46 rfl (lv_at hl 1 rfl) ?_
        refine g_6_1 C hk0 kf_X6_19 dX6_drawOut_47 ?_
        refine g_4_2 C (yk_6_1 hk0) kf_X6_341 dX6_drawOut_50 (fun v17 => ?_)
        refine q_i2l C dX6_drawOut_53 (fun v18 => ?_)
        refine q_lcmp C dX6_drawOut_54 (fun v19 => ?_)
        refine q_if_ge C 65 dX6_drawOut_55 (by decide) ?_ ?_
        · refine q_iinc (k := 3) C (fun v20 => [(7, .int v20), (5, .long v12), (0, .ref (gad G k0)), (3, .long x3)]) dX6_drawOut_65 hl rfl (by decide) (by decide) (fun _ => rfl) (fun v20 ls hl => ?_)
          refine q_goto C 8 dX6_drawOut_68 (by decide) ?_
          exact ih x3 v12 v20 ls (lv_sub hl [2, 3, 1, 0] rfl)
        · refine q_lload_n C dX6_drawOut_58 rfl (lv_at hl 2 rfl) ?_
          refine q_lconst C dX6_drawOut_59 rfl (by decide) (fun v21 => ?_)
          refine q_iload C dX6_drawOut_60 (lv_at hl 3 rfl) ?_
          refine q_lshl C dX6_drawOut_62 (fun v22 => ?_)
          refine q_lor C dX6_drawOut_63 (fun v23 => ?_)
          refine q_lstore_n C [(3, .long v23), (5, .long v12), (0, .ref (gad G k0)), (7, .int x5)] dX6_drawOut_64 rfl hl (by decide) rfl (fun ls hl => ?_)
          refine q_iinc (k := 3) C (fun v24 => [(7, .int v24), (3, .long v23), (5, .long v12), (0, .ref (gad G k0))]) dX6_drawOut_65 hl rfl (by decide) (by decide) (fun _ => rfl) (fun v24 ls hl => ?_)
          refine q_goto C 8 dX6_drawOut_68 (by decide) ?_
          exact ih v23 v12 v24 ls (lv_sub hl [3, 1, 2, 0] rfl)
  refine q_lconst C dX6_drawOut_0 rfl (by decide) (fun v1 => ?_)
  refine q_lstore_n C [(3, .long v1), (0, .ref (gad G k0)), (1, .long a1)] dX6_drawOut_1 rfl hl (by decide) rfl (fun ls hl => ?_)
  refine q_lload_n C dX6_drawOut_2 rfl (lv_at hl 2 rfl) ?_
  refine q_lstore C [(5, .long a1), (3, .long v1), (0, .ref (gad G k0)), (1, .long a1)] dX6_drawOut_3 hl (by decide) rfl (fun ls hl => ?_)
  refine q_iconst C dX6_drawOut_5 rfl (by decide) (fun v2 => ?_)
  refine q_istore C [(7, .int v2), (5, .long a1), (3, .long v1), (0, .ref (gad G k0)), (1, .long a1)] dX6_drawOut_6 hl (by decide) rfl (fun ls hl => ?_)
  exact B8 F v1 a1 v2 ls (lv_sub hl [3, 2, 1, 0] rfl)
def f_J13_bitCount_95d88 (F : Nat) (a1 : Int) (σ : St) : Option (Int) :=
  
  z_gt 1 fun v1 =>
  z_gt (z_lushr a1 v1) fun v2 =>
  z_gt 6148914691236517205 fun v3 =>
  z_gt (z_land v2 v3) fun v4 =>
  z_gt (z_lw (a1 - v4)) fun v5 =>
  z_gt 3689348814741910323 fun v6 =>
  z_gt (z_land v5 v6) fun v7 =>
  z_gt 2 fun v8 =>
  z_gt (z_lushr v5 v8) fun v9 =>
  z_gt 3689348814741910323 fun v10 =>
  z_gt (z_land v9 v10) fun v11 =>
  z_gt (z_lw (v7 + v11)) fun v12 =>
  z_gt 4 fun v13 =>
  z_gt (z_lushr v12 v13) fun v14 =>
  z_gt (z_lw (v12 + v14)) fun v15 =>
  z_gt 1085102592571150095 fun v16 =>
  z_gt (z_land v15 v16) fun v17 =>
  z_gt 8 fun v18 =>
  z_gt (z_lushr v17 v18) fun v19 =>
  z_gt (z_lw (v17 + v19)) fun v20 =>
  z_gt 16 fun v21 =>
  z_gt (z_lushr v20 v21) fun v22 =>
  z_gt (z_lw (v20 + v22)) fun v23 =>
  z_gt 32 fun v24 =>
  z_gt (z_lushr v23 v24) fun v25 =>
  z_gt (z_lw (v23 + v25)) fun v26 =>
  z_gt (z_l2i v26) fun v27 =>
  z_gt 127 fun v28 =>
  z_gt (z_and v27 v28) fun v29 =>
  some v29
theorem sb_J13_bitCount_95d88 : SB yJ13_bitCount_95d88 cJ13_bitCount_95d88 2 (some .int) 1 := ⟨ks_J13_bitCount_95d88, kn_J13, kc_J13_bitCount_95d88, by decide +kernel, by decide +kernel, by decide +kernel⟩
set_option maxRecDepth 20000 in
set_option maxHeartbeats 4000000 in
theorem m_J13_bitCount_95d88 (l : Launch) (G : GG) (F : Nat) (a1 : Int64) (σ : St) : ∀ r, f_J13_bitCount_95d88 F a1.toInt σ = some r → MC G l yJ13_bitCount_95d88 cJ13_bitCount_95d88 2 (some .int) { frames := 0, cells := 0, slots := 0, locals := 0 } [.long a1] σ (vI r) σ := by
  refine MC_of (own := RJ13) (vI) (fun _ => σ) (by decide +kernel) rfl (Nat.le_of_ble_eq_true rfl) ?_
  intro p e s m args below meth c C hr hlo ls hl
  have hl : lv_has ls 2 [(0, .long a1)] := hl
  unfold f_J13_bitCount_95d88
  refine q_lload_n C dJ13_bitCount_95d88_0 rfl (lv_at hl 0 rfl) ?_
  refine q_lload_n C dJ13_bitCount_95d88_1 rfl (lv_at hl 0 rfl) ?_
  refine q_iconst C dJ13_bitCount_95d88_2 rfl (by decide) (fun v1 => ?_)
  refine q_lushr C dJ13_bitCount_95d88_3 (fun v2 => ?_)
  refine q_ldc2 C kk_J13_314 dJ13_bitCount_95d88_4 (by decide) (fun v3 => ?_)
  refine q_land C dJ13_bitCount_95d88_7 (fun v4 => ?_)
  refine q_lsubw C dJ13_bitCount_95d88_8 (fun v5 => ?_)
  refine q_lstore_n C [(0, .long v5)] dJ13_bitCount_95d88_9 rfl hl (by decide) rfl (fun ls hl => ?_)
  refine q_lload_n C dJ13_bitCount_95d88_10 rfl (lv_at hl 0 rfl) ?_
  refine q_ldc2 C kk_J13_316 dJ13_bitCount_95d88_11 (by decide) (fun v6 => ?_)
  refine q_land C dJ13_bitCount_95d88_14 (fun v7 => ?_)
  refine q_lload_n C dJ13_bitCount_95d88_15 rfl (lv_at hl 0 rfl) ?_
  refine q_iconst C dJ13_bitCount_95d88_16 rfl (by decide) (fun v8 => ?_)
  refine q_lushr C dJ13_bitCount_95d88_17 (fun v9 => ?_)
  refine q_ldc2 C kk_J13_316 dJ13_bitCount_95d88_18 (by decide) (fun v10 => ?_)
  refine q_land C dJ13_bitCount_95d88_21 (fun v11 => ?_)
  refine q_laddw C dJ13_bitCount_95d88_22 (fun v12 => ?_)
  refine q_lstore_n C [(0, .long v12)] dJ13_bitCount_95d88_23 rfl hl (by decide) rfl (fun ls hl => ?_)
  refine q_lload_n C dJ13_bitCount_95d88_24 rfl (lv_at hl 0 rfl) ?_
  refine q_lload_n C dJ13_bitCount_95d88_25 rfl (lv_at hl 0 rfl) ?_
  refine q_iconst C dJ13_bitCount_95d88_26 rfl (by decide) (fun v13 => ?_)
  refine q_lushr C dJ13_bitCount_95d88_27 (fun v14 => ?_)
  refine q_laddw C dJ13_bitCount_95d88_28 (fun v15 => ?_)
  refine q_ldc2 C kk_J13_318 dJ13_bitCount_95d88_29 (by decide) (fun v16 => ?_)
  refine q_land C dJ13_bitCount_95d88_32 (fun v17 => ?_)
  refine q_lstore_n C [(0, .long v17)] dJ13_bitCount_95d88_33 rfl hl (by decide) rfl (fun ls hl => ?_)
  refine q_lload_n C dJ13_bitCount_95d88_34 rfl (lv_at hl 0 rfl) ?_
  refine q_lload_n C dJ13_bitCount_95d88_35 rfl (lv_at hl 0 rfl) ?_
  refine q_bipush C dJ13_bitCount_95d88_36 rfl (by decide) (fun v18 => ?_)
  refine q_lushr C dJ13_bitCount_95d88_38 (fun v19 => ?_)
  refine q_laddw C dJ13_bitCount_95d88_39 (fun v20 => ?_)
  refine q_lstore_n C [(0, .long v20)] dJ13_bitCount_95d88_40 rfl hl (by decide) rfl (fun ls hl => ?_)
  refine q_lload_n C dJ13_bitCount_95d88_41 rfl (lv_at hl 0 rfl) ?_
  refine q_lload_n C dJ13_bitCount_95d88_42 rfl (lv_at hl 0 rfl) ?_
  refine q_bipush C dJ13_bitCount_95d88_43 rfl (by decide) (fun v21 => ?_)
  refine q_lushr C dJ13_bitCount_95d88_45 (fun v22 => ?_)
  refine q_laddw C dJ13_bitCount_95d88_46 (fun v23 => ?_)
  refine q_lstore_n C [(0, .long v23)] dJ13_bitCount_95d88_47 rfl hl (by decide) rfl (fun ls hl => ?_)
  refine q_lload_n C dJ13_bitCount_95d88_48 rfl (lv_at hl 0 rfl) ?_
  refine q_lload_n C dJ13_bitCount_95d88_49 rfl (lv_at hl 0 rfl) ?_
  refine q_bipush C dJ13_bitCount_95d88_50 rfl (by decide) (fun v24 => ?_)
  refine q_lushr C dJ13_bitCount_95d88_52 (fun v25 => ?_)
  refine q_laddw C dJ13_bitCount_95d88_53 (fun v26 => ?_)
  refine q_lstore_n C [(0, .long v26)] dJ13_bitCount_95d88_54 rfl hl (by decide) rfl (fun ls hl => ?_)
  refine q_lload_n C dJ13_bitCount_95d88_55 rfl (lv_at hl 0 rfl) ?_
  refine q_l2i C dJ13_bitCount_95d88_56 (fun v27 => ?_)
  refine q_bipush C dJ13_bitCount_95d88_57 rfl (by decide) (fun v28 => ?_)
  refine q_iand C dJ13_bitCount_95d88_59 (fun v29 => ?_)
  exact q_iret C hr hlo dJ13_bitCount_95d88_60
def f_X6_drawn (F : Nat) (k0 : Nat) (a1 : Int) (a2 : Int) (σ : St) : Option (Int × St) :=
  z_ob 6 k0 <| 
  z_c1 (f_X4_exists F (k0 + 4) σ) fun v1 =>
  if v1 = 0 then (
    z_gt (-2) fun v2 =>
    some (v2, σ))
  else (
    z_c1 (f_X6_isSeed F a1 σ) fun v3 =>
    if v3 = 0 then (
      z_gt (-2) fun v4 =>
      some (v4, σ))
    else (
      if a2 < 0 then (
        z_gt (-2) fun v5 =>
        some (v5, σ))
      else (
        z_gt 1 fun v6 =>
        if a2 ≤ v6 then (
          z_gt a1 fun v7 =>
          z_c1 (f_X6_drawOut F k0 v7 σ) fun v8 =>
          if ¬ a2 = 0 then (
            z_gt (σ (k0 + 4) 1) fun v9 =>
            z_c1 (f_X3_play F (k0 + 110) (k0 + 4) v9 v8 σ) fun σ1 =>
            z_gt (σ1 (k0 + 110) 2) fun v10 =>
            z_c1 (f_J6_bitCount_0f7a4 F v10 σ1) fun v11 =>
            some (v11, σ1))
          else (
            z_c1 (f_J13_bitCount_95d88 F v8 σ) fun v12 =>
            some (v12, σ)))
        else (
          z_gt (-2) fun v13 =>
          some (v13, σ)))))
theorem cb_X6_drawn : CB yX6_drawn cX6_drawn 5 (some .int) 2 := ⟨ki_X6_drawn, kq_X6_drawn, kn_X6, kc_X6_drawn, by decide +kernel, by decide +kernel, by decide +kernel⟩
set_option maxRecDepth 20000 in
set_option maxHeartbeats 4000000 in
theorem m_X6_drawn (l : Launch) (G : GG) (F : Nat) (k0 : Nat) (a1 : Int32) (a2 : Int32) (σ : St) : ∀ r, f_X6_drawn F k0 a1.toInt a2.toInt σ = some r → MC G l yX6_drawn cX6_drawn 5 (some .int) { frames := 5, cells := 0, slots := 0, locals := 137 } [.ref (gad G k0), .int a1, .int a2] σ (vI r.1) r.2 := by
  refine MC_of (own := RX6) (fun r : Int × St => vI r.1) (fun r : Int × St => r.2) (by decide +kernel) rfl (Nat.le_of_ble_eq_true rfl) ?_
  intro p e s m args below meth c C hr hlo ls hl
  have hl : lv_has ls 5 [(0, .ref (gad G k0)), (1, .int a1), (2, .int a2)] := hl
  unfold f_X6_drawn
  refine q_ob (fun hk0 => ?_)
  refine q_aload_n C dX6_drawn_0 rfl (lv_at hl 0 rfl) ?_
  refine g_6_1 C hk0 kf_X6_19 dX6_drawn_1 ?_
  refine q_c1i C (fun r h => cr_V (As := []) (rest := []) C (m_X4_exists l G F (k0 + 4) σ r h) cb_X4_exists (yk_6_1 hk0) (by decide) rfl (cf_4 (yk_6_1 hk0) _) rfl kl_X6_245 ⟨Nat.le_of_ble_eq_true rfl, Nat.le_of_ble_eq_true rfl⟩ ⟨Nat.zero_le _, Nat.zero_le _⟩ hl.1 rfl (Nat.le_of_ble_eq_true rfl) dX6_drawn_4 rfl) (fun v1 => ?_)
  refine q_if_eq C 26 dX6_drawn_7 (by decide) ?_ ?_
  · refine q_bipush C dX6_drawn_26 rfl (by decide) (fun v2 => ?_)
    exact q_iretE C hr hlo dX6_drawn_28
  · refine q_iload_n C dX6_drawn_10 rfl (lv_at hl 1 rfl) ?_
    refine q_c1i C (fun r h => cr_S (As := [.int a1]) (rest := []) C (m_X6_isSeed l G F a1 σ r h) sb_X6_isSeed kl_X6_362 ⟨Nat.le_of_ble_eq_true rfl, Nat.le_of_ble_eq_true rfl⟩ ⟨Nat.zero_le _, Nat.zero_le _⟩ hl.1 rfl (Nat.le_of_ble_eq_true rfl) dX6_drawn_11 rfl) (fun v3 => ?_)
    refine q_if_eq C 26 dX6_drawn_14 (by decide) ?_ ?_
    · refine q_bipush C dX6_drawn_26 rfl (by decide) (fun v4 => ?_)
      exact q_iretE C hr hlo dX6_drawn_28
    · refine q_iload_n C dX6_drawn_17 rfl (lv_at hl 2 rfl) ?_
      refine q_if_lt C 26 dX6_drawn_18 (by decide) ?_ ?_
      · refine q_bipush C dX6_drawn_26 rfl (by decide) (fun v5 => ?_)
        exact q_iretE C hr hlo dX6_drawn_28
      · refine q_iload_n C dX6_drawn_21 rfl (lv_at hl 2 rfl) ?_
        refine q_iconst C dX6_drawn_22 rfl (by decide) (fun v6 => ?_)
        refine q_icmp_le C 29 dX6_drawn_23 (by decide) ?_ ?_
        · refine q_aload_n C dX6_drawn_29 rfl (lv_at hl 0 rfl) ?_
          refine q_iload_n C dX6_drawn_30 rfl (lv_at hl 1 rfl) ?_
          refine q_i2l C dX6_drawn_31 (fun v7 => ?_)
          refine q_c1l C (fun r h => cr_V (As := [.long v7]) (rest := []) C (m_X6_drawOut l G F k0 v7 σ r h) cb_X6_drawOut hk0 (by decide) rfl (cf_6 hk0 _) rfl kl_X6_365 ⟨Nat.le_of_ble_eq_true rfl, Nat.le_of_ble_eq_true rfl⟩ ⟨Nat.zero_le _, Nat.zero_le _⟩ hl.1 rfl (Nat.le_of_ble_eq_true rfl) dX6_drawn_32 rfl) (fun v8 => ?_)
          refine q_lstore_n C [(3, .long v8), (0, .ref (gad G k0)), (1, .int a1), (2, .int a2)] dX6_drawn_35 rfl hl (by decide) rfl (fun ls hl => ?_)
          refine q_iload_n C dX6_drawn_36 rfl (lv_at hl 3 rfl) ?_
          refine q_if_ne C 45 dX6_drawn_37 (by decide) ?_ ?_
          · refine q_aload_n C dX6_drawn_45 rfl (lv_at hl 1 rfl) ?_
            refine g_6_6 C hk0 kf_X6_43 dX6_drawn_46 ?_
            refine q_aload_n C dX6_drawn_49 rfl (lv_at hl 1 rfl) ?_
            refine g_6_1 C hk0 kf_X6_19 dX6_drawn_50 ?_
            refine q_aload_n C dX6_drawn_53 rfl (lv_at hl 1 rfl) ?_
            refine g_6_1 C hk0 kf_X6_19 dX6_drawn_54 ?_
            refine g_4_1 C (yk_6_1 hk0) kf_X6_326 dX6_drawn_57 (fun v9 => ?_)
            refine q_lload_n C dX6_drawn_60 rfl (lv_at hl 0 rfl) ?_
            refine q_cv C (fun r h => cr_V (As := [.ref (gad G (k0 + 4)), .int v9, .long v8]) (rest := []) C (m_X3_play l G F (k0 + 110) (k0 + 4) v9 v8 σ r h) cb_X3_play (yk_6_6 hk0) (by decide) rfl (cf_3 (yk_6_6 hk0) _) rfl kl_X6_299 ⟨Nat.le_of_ble_eq_true rfl, Nat.le_of_ble_eq_true rfl⟩ ⟨Nat.zero_le _, Nat.zero_le _⟩ hl.1 rfl (Nat.le_of_ble_eq_true rfl) dX6_drawn_61 rfl) (fun σ1 => ?_)
            refine q_aload_n C dX6_drawn_64 rfl (lv_at hl 1 rfl) ?_
            refine g_6_6 C hk0 kf_X6_43 dX6_drawn_65 ?_
            refine g_3_2 C (yk_6_6 hk0) kf_X6_140 dX6_drawn_68 (fun v10 => ?_)
            refine q_c1i C (fun r h => cr_S (As := [.int v10]) (rest := []) C (m_J6_bitCount_0f7a4 l G F v10 σ1 r h) sb_J6_bitCount_0f7a4 kl_X6_132 ⟨Nat.le_of_ble_eq_true rfl, Nat.le_of_ble_eq_true rfl⟩ ⟨Nat.zero_le _, Nat.zero_le _⟩ hl.1 rfl (Nat.le_of_ble_eq_true rfl) dX6_drawn_71 rfl) (fun v11 => ?_)
            exact q_iretE C hr hlo dX6_drawn_74
          · refine q_lload_n C dX6_drawn_40 rfl (lv_at hl 0 rfl) ?_
            refine q_c1i C (fun r h => cr_S (As := [.long v8]) (rest := []) C (m_J13_bitCount_95d88 l G F v8 σ r h) sb_J13_bitCount_95d88 kl_X6_369 ⟨Nat.le_of_ble_eq_true rfl, Nat.le_of_ble_eq_true rfl⟩ ⟨Nat.zero_le _, Nat.zero_le _⟩ hl.1 rfl (Nat.le_of_ble_eq_true rfl) dX6_drawn_41 rfl) (fun v12 => ?_)
            exact q_iretE C hr hlo dX6_drawn_44
        · refine q_bipush C dX6_drawn_26 rfl (by decide) (fun v13 => ?_)
          exact q_iretE C hr hlo dX6_drawn_28
def f_X6_luck_L35 (F : Nat) (k0 : Nat) (a1 : Int) (a2 : Int) (a3 : Int)   : Nat → Int → Int → St → Option (Int × St)
  | 0, _, _, _ => none
  | n + 1, x10, x11, σ =>
    if a2 ≤ x11 then (
      some (x10, σ))
    else (
      z_gt (σ (k0 + 4) 1) fun v12 =>
      z_gt a1 fun v13 =>
      z_gt x11 fun v14 =>
      z_lk (v13 + v14) fun v15 =>
      z_c1 (f_X6_drawOut F k0 v15 σ) fun v16 =>
      z_c1 (f_X3_play F (k0 + 110) (k0 + 4) v12 v16 σ) fun σ1 =>
      z_gt (σ1 (k0 + 110) 2) fun v17 =>
      z_c1 (f_X6_holds F v17 a3 σ1) fun v18 =>
      if v18 = 0 then (
        z_ck (x11 + 1) fun v19 =>
        f_X6_luck_L35 F k0 a1 a2 a3 n x10 v19 σ1)
      else (
        z_ck (x10 + 1) fun v20 =>
        z_ck (x11 + 1) fun v21 =>
        f_X6_luck_L35 F k0 a1 a2 a3 n v20 v21 σ1))

def f_X6_luck (F : Nat) (k0 : Nat) (a1 : Int) (a2 : Int) (a3 : Int) (σ : St) : Option (Int × St) :=
  z_ob 6 k0 <| 
  z_c1 (f_X6_hasCell F k0 a3 σ) fun v1 =>
  if v1 = 0 then (
    z_gt (-2) fun v2 =>
    some (v2, σ))
  else (
    z_c1 (f_X6_isSeed F a1 σ) fun v3 =>
    if v3 = 0 then (
      z_gt (-2) fun v4 =>
      some (v4, σ))
    else (
      z_gt 1 fun v5 =>
      if a2 < v5 then (
        z_gt (-2) fun v6 =>
        some (v6, σ))
      else (
        z_gt 20 fun v7 =>
        if a2 ≤ v7 then (
          z_gt 0 fun v8 =>
          z_gt 0 fun v9 =>
          f_X6_luck_L35 F k0 a1 a2 a3 F v8 v9 σ)
        else (
          z_gt (-2) fun v22 =>
          some (v22, σ)))))
theorem cb_X6_luck : CB yX6_luck cX6_luck 6 (some .int) 3 := ⟨ki_X6_luck, kq_X6_luck, kn_X6, kc_X6_luck, by decide +kernel, by decide +kernel, by decide +kernel⟩
set_option maxRecDepth 20000 in
set_option maxHeartbeats 4000000 in
theorem m_X6_luck (l : Launch) (G : GG) (F : Nat) (k0 : Nat) (a1 : Int32) (a2 : Int32) (a3 : Int32) (σ : St) : ∀ r, f_X6_luck F k0 a1.toInt a2.toInt a3.toInt σ = some r → MC G l yX6_luck cX6_luck 6 (some .int) { frames := 5, cells := 0, slots := 0, locals := 137 } [.ref (gad G k0), .int a1, .int a2, .int a3] σ (vI r.1) r.2 := by
  refine MC_of (own := RX6) (fun r : Int × St => vI r.1) (fun r : Int × St => r.2) (by decide +kernel) rfl (Nat.le_of_ble_eq_true rfl) ?_
  intro p e s m args below meth c C hr hlo ls hl
  have hl : lv_has ls 6 [(0, .ref (gad G k0)), (1, .int a1), (2, .int a2), (3, .int a3)] := hl
  unfold f_X6_luck
  refine q_ob (fun hk0 => ?_)
  have B35 : ∀ (n : Nat) (x10 : Int32) (x11 : Int32) (σ : St) (ls : Array Slot), lv_has ls 6 [(0, .ref (gad G k0)), (1, .int a1), (2, .int a2), (3, .int a3), (4, .int x10), (5, .int x11)] → Sim G (AG G) 0 0 p l e { frames := 5, cells := 0, slots := 0, locals := 137 } s m args below meth c (fun r : Int × St => MQ below (QC G (vI r.1) (r.2)) args s 0 0 (AG G)) σ (f_X6_luck_L35 F k0 a1.toInt a2.toInt a3.toInt   n x10.toInt x11.toInt σ) (F0 m 35 ls []) := by
    intro n
    induction n with
    | zero =>
      intro x10 x11 σ ls hl
      exact sim_none
    | succ n ih =>
      intro x10 x11 σ ls hl
      rw [f_X6_luck_L35]
      refine q_iload C dX6_luck_35 (lv_at hl 5 rfl) ?_
      refine q_iload_n C dX6_luck_37 rfl (lv_at hl 2 rfl) ?_
      refine q_icmp_ge C 92 dX6_luck_38 (by decide) ?_ ?_
      · refine q_iload C dX6_luck_92 (lv_at hl 4 rfl) ?_
        exact q_iretE C hr hlo dX6_luck_94
      · refine q_aload_n C dX6_luck_41 rfl (lv_at hl 0 rfl) ?_
        refine g_6_6 C hk0 kf_X6_43 dX6_luck_42 ?_
        refine q_aload_n C dX6_luck_45 rfl (lv_at hl 0 rfl) ?_
        refine g_6_1 C hk0 kf_X6_19 dX6_luck_46 ?_
        refine q_aload_n C dX6_luck_49 rfl (lv_at hl 0 rfl) ?_
        refine g_6_1 C hk0 kf_X6_19 dX6_luck_50 ?_
        refine g_4_1 C (yk_6_1 hk0) kf_X6_326 dX6_luck_53 (fun v12 => ?_)
        refine q_aload_n C dX6_luck_56 rfl (lv_at hl 0 rfl) ?_
        refine q_iload_n C dX6_luck_57 rfl (lv_at hl 1 rfl) ?_
        refine q_i2l C dX6_luck_58 (fun v13 => ?_)
        refine q_iload C dX6_luck_59 (lv_at hl 5 rfl) ?_
        refine q_i2l C dX6_luck_61 (fun v14 => ?_)
        refine q_ladd C dX6_luck_62 (fun v15 => ?_)
        refine q_c1l C (fun r h => cr_V (As := [.long v15]) (rest := [.int v12, .ref (gad G (k0 + 4)), .ref (gad G (k0 + 110))]) C (m_X6_drawOut l G F k0 v15 σ r h) cb_X6_drawOut hk0 (by decide) rfl (cf_6 hk0 _) rfl kl_X6_365 ⟨Nat.le_of_ble_eq_true rfl, Nat.le_of_ble_eq_true rfl⟩ ⟨Nat.zero_le _, Nat.zero_le _⟩ hl.1 rfl (Nat.le_of_ble_eq_true rfl) dX6_luck_63 rfl) (fun v16 => ?_)
        refine q_cv C (fun r h => cr_V (As := [.ref (gad G (k0 + 4)), .int v12, .long v16]) (rest := []) C (m_X3_play l G F (k0 + 110) (k0 + 4) v12 v16 σ r h) cb_X3_play (yk_6_6 hk0) (by decide) rfl (cf_3 (yk_6_6 hk0) _) rfl kl_X6_299 ⟨Nat.le_of_ble_eq_true rfl, Nat.le_of_ble_eq_true rfl⟩ ⟨Nat.zero_le _, Nat.zero_le _⟩ hl.1 rfl (Nat.le_of_ble_eq_true rfl) dX6_luck_66 rfl) (fun σ1 => ?_)
        refine q_aload_n C dX6_luck_69 rfl (lv_at hl 0 rfl) ?_
        refine g_6_6 C hk0 kf_X6_43 dX6_luck_70 ?_
        refine g_3_2 C (yk_6_6 hk0) kf_X6_140 dX6_luck_73 (fun v17 => ?_)
        refine q_iload_n C dX6_luck_76 rfl (lv_at hl 3 rfl) ?_
        refine q_c1i C (fun r h => cr_S (As := [.int v17, .int a3]) (rest := []) C (m_X6_holds l G F v17 a3 σ1 r h) sb_X6_holds kl_X6_143 ⟨Nat.le_of_ble_eq_true rfl, Nat.le_of_ble_eq_true rfl⟩ ⟨Nat.zero_le _, Nat.zero_le _⟩ hl.1 rfl (Nat.le_of_ble_eq_true rfl) dX6_luck_77 rfl) (fun v18 => ?_)
        refine q_if_eq C 86 dX6_luck_80 (by decide) ?_ ?_
        · refine q_iinc (k := 5) C (fun v19 => [(5, .int v19), (0, .ref (gad G k0)), (1, .int a1), (2, .int a2), (3, .int a3), (4, .int x10)]) dX6_luck_86 hl rfl (by decide) (by decide) (fun _ => rfl) (fun v19 ls hl => ?_)
          refine q_goto C 35 dX6_luck_89 (by decide) ?_
          exact ih x10 v19 σ1 ls (lv_sub hl [1, 2, 3, 4, 5, 0] rfl)
        · refine q_iinc (k := 4) C (fun v20 => [(4, .int v20), (0, .ref (gad G k0)), (1, .int a1), (2, .int a2), (3, .int a3), (5, .int x11)]) dX6_luck_83 hl rfl (by decide) (by decide) (fun _ => rfl) (fun v20 ls hl => ?_)
          refine q_iinc (k := 5) C (fun v21 => [(5, .int v21), (4, .int v20), (0, .ref (gad G k0)), (1, .int a1), (2, .int a2), (3, .int a3)]) dX6_luck_86 hl rfl (by decide) (by decide) (fun _ => rfl) (fun v21 ls hl => ?_)
          refine q_goto C 35 dX6_luck_89 (by decide) ?_
          exact ih v20 v21 σ1 ls (lv_sub hl [2, 3, 4, 5, 1, 0] rfl)
  refine q_aload_n C dX6_luck_0 rfl (lv_at hl 0 rfl) ?_
  refine q_iload_n C dX6_luck_1 rfl (lv_at hl 3 rfl) ?_
  refine q_c1i C (fun r h => cr_V (As := [.int a3]) (rest := []) C (m_X6_hasCell l G F k0 a3 σ r h) cb_X6_hasCell hk0 (by decide) rfl (cf_6 hk0 _) rfl kl_X6_114 ⟨Nat.le_of_ble_eq_true rfl, Nat.le_of_ble_eq_true rfl⟩ ⟨Nat.zero_le _, Nat.zero_le _⟩ hl.1 rfl (Nat.le_of_ble_eq_true rfl) dX6_luck_2 rfl) (fun v1 => ?_)
  refine q_if_eq C 26 dX6_luck_5 (by decide) ?_ ?_
  · refine q_bipush C dX6_luck_26 rfl (by decide) (fun v2 => ?_)
    exact q_iretE C hr hlo dX6_luck_28
  · refine q_iload_n C dX6_luck_8 rfl (lv_at hl 1 rfl) ?_
    refine q_c1i C (fun r h => cr_S (As := [.int a1]) (rest := []) C (m_X6_isSeed l G F a1 σ r h) sb_X6_isSeed kl_X6_362 ⟨Nat.le_of_ble_eq_true rfl, Nat.le_of_ble_eq_true rfl⟩ ⟨Nat.zero_le _, Nat.zero_le _⟩ hl.1 rfl (Nat.le_of_ble_eq_true rfl) dX6_luck_9 rfl) (fun v3 => ?_)
    refine q_if_eq C 26 dX6_luck_12 (by decide) ?_ ?_
    · refine q_bipush C dX6_luck_26 rfl (by decide) (fun v4 => ?_)
      exact q_iretE C hr hlo dX6_luck_28
    · refine q_iload_n C dX6_luck_15 rfl (lv_at hl 2 rfl) ?_
      refine q_iconst C dX6_luck_16 rfl (by decide) (fun v5 => ?_)
      refine q_icmp_lt C 26 dX6_luck_17 (by decide) ?_ ?_
      · refine q_bipush C dX6_luck_26 rfl (by decide) (fun v6 => ?_)
        exact q_iretE C hr hlo dX6_luck_28
      · refine q_iload_n C dX6_luck_20 rfl (lv_at hl 2 rfl) ?_
        refine q_bipush C dX6_luck_21 rfl (by decide) (fun v7 => ?_)
        refine q_icmp_le C 29 dX6_luck_23 (by decide) ?_ ?_
        · refine q_iconst C dX6_luck_29 rfl (by decide) (fun v8 => ?_)
          refine q_istore C [(4, .int v8), (0, .ref (gad G k0)), (1, .int a1), (2, .int a2), (3, .int a3)] dX6_luck_30 hl (by decide) rfl (fun ls hl => ?_)
          refine q_iconst C dX6_luck_32 rfl (by decide) (fun v9 => ?_)
          refine q_istore C [(5, .int v9), (4, .int v8), (0, .ref (gad G k0)), (1, .int a1), (2, .int a2), (3, .int a3)] dX6_luck_33 hl (by decide) rfl (fun ls hl => ?_)
          exact B35 F v8 v9 σ ls (lv_sub hl [2, 3, 4, 5, 1, 0] rfl)
        · refine q_bipush C dX6_luck_26 rfl (by decide) (fun v22 => ?_)
          exact q_iretE C hr hlo dX6_luck_28
def f_X6_slotsThere_L4 (F : Nat) (k0 : Nat)  (σ : St) : Nat → Int → Int → Option (Int)
  | 0, _, _ => none
  | n + 1, x3, x4 =>
    z_gt 4 fun v5 =>
    if v5 ≤ x4 then (
      some x3)
    else (
      z_ix x4 4 <|
      z_gt (σ (k0 + 11 + 212 + 2 * x4.toNat) 0) fun v7 =>
      if v7 = 0 then (
        z_ck (x4 + 1) fun v8 =>
        f_X6_slotsThere_L4 F k0 σ n x3 v8)
      else (
        z_ck (x3 + 1) fun v9 =>
        z_ck (x4 + 1) fun v10 =>
        f_X6_slotsThere_L4 F k0 σ n v9 v10))

def f_X6_slotsThere (F : Nat) (k0 : Nat) (σ : St) : Option (Int) :=
  z_ob 6 k0 <| 
  z_gt 0 fun v1 =>
  z_gt 0 fun v2 =>
  f_X6_slotsThere_L4 F k0 σ F v1 v2
theorem cb_X6_slotsThere : CB yX6_slotsThere cX6_slotsThere 3 (some .int) 0 := ⟨ki_X6_slotsThere, kq_X6_slotsThere, kn_X6, kc_X6_slotsThere, by decide +kernel, by decide +kernel, by decide +kernel⟩
set_option maxRecDepth 20000 in
set_option maxHeartbeats 4000000 in
theorem m_X6_slotsThere (l : Launch) (G : GG) (F : Nat) (k0 : Nat) (σ : St) : ∀ r, f_X6_slotsThere F k0 σ = some r → MC G l yX6_slotsThere cX6_slotsThere 3 (some .int) { frames := 0, cells := 0, slots := 0, locals := 0 } [.ref (gad G k0)] σ (vI r) σ := by
  refine MC_of (own := RX6) (vI) (fun _ => σ) (by decide +kernel) rfl (Nat.le_of_ble_eq_true rfl) ?_
  intro p e s m args below meth c C hr hlo ls hl
  have hl : lv_has ls 3 [(0, .ref (gad G k0))] := hl
  unfold f_X6_slotsThere
  refine q_ob (fun hk0 => ?_)
  have B4 : ∀ (n : Nat) (x3 : Int32) (x4 : Int32) (ls : Array Slot), lv_has ls 3 [(0, .ref (gad G k0)), (1, .int x3), (2, .int x4)] → Sim G (AG G) 0 0 p l e { frames := 0, cells := 0, slots := 0, locals := 0 } s m args below meth c (fun r : Int => MQ below (QC G (vI r) (σ)) args s 0 0 (AG G)) σ (f_X6_slotsThere_L4 F k0  σ n x3.toInt x4.toInt) (F0 m 4 ls []) := by
    intro n
    induction n with
    | zero =>
      intro x3 x4 ls hl
      exact sim_none
    | succ n ih =>
      intro x3 x4 ls hl
      rw [f_X6_slotsThere_L4]
      refine q_iload_n C dX6_slotsThere_4 rfl (lv_at hl 2 rfl) ?_
      refine q_iconst C dX6_slotsThere_5 rfl (by decide) (fun v5 => ?_)
      refine q_icmp_ge C 30 dX6_slotsThere_6 (by decide) ?_ ?_
      · refine q_iload_n C dX6_slotsThere_30 rfl (lv_at hl 1 rfl) ?_
        exact q_iret C hr hlo dX6_slotsThere_31
      · refine q_aload_n C dX6_slotsThere_9 rfl (lv_at hl 0 rfl) ?_
        refine g_6_4 C hk0 kf_X6_32 dX6_slotsThere_10 ?_
        refine q_iload_n C dX6_slotsThere_13 rfl (lv_at hl 2 rfl) ?_
        refine a_ald14 C (yk_6_4 hk0) (yl_6_4 hk0) dX6_slotsThere_14 (fun h6 => ?_)
        refine g_5_0 C (ye_14 (yk_6_4 hk0) (i := x4.toInt.toNat) (by omega)) kf_X6_281 dX6_slotsThere_15 (fun v7 => ?_)
        refine q_if_eq C 24 dX6_slotsThere_18 (by decide) ?_ ?_
        · refine q_iinc (k := 2) C (fun v8 => [(2, .int v8), (0, .ref (gad G k0)), (1, .int x3)]) dX6_slotsThere_24 hl rfl (by decide) (by decide) (fun _ => rfl) (fun v8 ls hl => ?_)
          refine q_goto C 4 dX6_slotsThere_27 (by decide) ?_
          exact ih x3 v8 ls (lv_sub hl [1, 2, 0] rfl)
        · refine q_iinc (k := 1) C (fun v9 => [(1, .int v9), (0, .ref (gad G k0)), (2, .int x4)]) dX6_slotsThere_21 hl rfl (by decide) (by decide) (fun _ => rfl) (fun v9 ls hl => ?_)
          refine q_iinc (k := 2) C (fun v10 => [(2, .int v10), (1, .int v9), (0, .ref (gad G k0))]) dX6_slotsThere_24 hl rfl (by decide) (by decide) (fun _ => rfl) (fun v10 ls hl => ?_)
          refine q_goto C 4 dX6_slotsThere_27 (by decide) ?_
          exact ih v9 v10 ls (lv_sub hl [2, 1, 0] rfl)
  refine q_iconst C dX6_slotsThere_0 rfl (by decide) (fun v1 => ?_)
  refine q_istore_n C [(1, .int v1), (0, .ref (gad G k0))] dX6_slotsThere_1 rfl hl (by decide) rfl (fun ls hl => ?_)
  refine q_iconst C dX6_slotsThere_2 rfl (by decide) (fun v2 => ?_)
  refine q_istore_n C [(2, .int v2), (1, .int v1), (0, .ref (gad G k0))] dX6_slotsThere_3 rfl hl (by decide) rfl (fun ls hl => ?_)
  exact B4 F v1 v2 ls (lv_sub hl [2, 1, 0] rfl)
def f_X6_count (F : Nat) (k0 : Nat) (a1 : Int) (σ : St) : Option (Int) :=
  z_ob 6 k0 <| 
  if a1 = 0 then (
    z_gt (σ (k0 + 4) 0) fun v1 =>
    some v1)
  else
  if a1 = 1 then (
    z_gt (σ (k0 + 4) 1) fun v2 =>
    some v2)
  else
  if a1 = 2 then (
    z_gt (σ (k0 + 4) 2) fun v3 =>
    some v3)
  else
  if a1 = 3 then (
    z_gt (σ (k0 + 4) 3) fun v4 =>
    some v4)
  else
  if a1 = 4 then (
    z_gt (σ (k0 + 4) 4) fun v5 =>
    some v5)
  else
  if a1 = 5 then (
    z_c1 (f_X4_lines F (k0 + 4) σ) fun v6 =>
    some v6)
  else
  if a1 = 6 then (
    z_gt (σ (k0 + 1) 0) fun v7 =>
    some v7)
  else
  if a1 = 7 then (
    z_c1 (f_X6_slotsThere F k0 σ) fun v8 =>
    some v8)
  else
  (
    z_gt (-1) fun v9 =>
    some v9)
theorem cb_X6_count : CB yX6_count cX6_count 2 (some .int) 1 := ⟨ki_X6_count, kq_X6_count, kn_X6, kc_X6_count, by decide +kernel, by decide +kernel, by decide +kernel⟩
set_option maxRecDepth 20000 in
set_option maxHeartbeats 4000000 in
theorem m_X6_count (l : Launch) (G : GG) (F : Nat) (k0 : Nat) (a1 : Int32) (σ : St) : ∀ r, f_X6_count F k0 a1.toInt σ = some r → MC G l yX6_count cX6_count 2 (some .int) { frames := 1, cells := 0, slots := 0, locals := 22 } [.ref (gad G k0), .int a1] σ (vI r) σ := by
  refine MC_of (own := RX6) (vI) (fun _ => σ) (by decide +kernel) rfl (Nat.le_of_ble_eq_true rfl) ?_
  intro p e s m args below meth c C hr hlo ls hl
  have hl : lv_has ls 2 [(0, .ref (gad G k0)), (1, .int a1)] := hl
  unfold f_X6_count
  refine q_ob (fun hk0 => ?_)
  refine q_iload_n C dX6_count_0 rfl (lv_at hl 1 rfl) ?_
  refine q_ite (fun e0 => ?_) (fun e0 => ?_) _
  · refine q_tin C 48 e0 dX6_count_1 (by decide) (by decide) rfl (by decide) ?_
    refine q_aload_n C dX6_count_48 rfl (lv_at hl 0 rfl) ?_
    refine g_6_1 C hk0 kf_X6_19 dX6_count_49 ?_
    refine g_4_0 C (yk_6_1 hk0) kf_X6_226 dX6_count_52 (fun v1 => ?_)
    exact q_iret C hr hlo dX6_count_55
  refine q_ite (fun e1 => ?_) (fun e1 => ?_) _
  · refine q_tin C 56 e1 dX6_count_1 (by decide) (by decide) rfl (by decide) ?_
    refine q_aload_n C dX6_count_56 rfl (lv_at hl 0 rfl) ?_
    refine g_6_1 C hk0 kf_X6_19 dX6_count_57 ?_
    refine g_4_1 C (yk_6_1 hk0) kf_X6_326 dX6_count_60 (fun v2 => ?_)
    exact q_iret C hr hlo dX6_count_63
  refine q_ite (fun e2 => ?_) (fun e2 => ?_) _
  · refine q_tin C 64 e2 dX6_count_1 (by decide) (by decide) rfl (by decide) ?_
    refine q_aload_n C dX6_count_64 rfl (lv_at hl 0 rfl) ?_
    refine g_6_1 C hk0 kf_X6_19 dX6_count_65 ?_
    refine g_4_2 C (yk_6_1 hk0) kf_X6_341 dX6_count_68 (fun v3 => ?_)
    exact q_iret C hr hlo dX6_count_71
  refine q_ite (fun e3 => ?_) (fun e3 => ?_) _
  · refine q_tin C 72 e3 dX6_count_1 (by decide) (by decide) rfl (by decide) ?_
    refine q_aload_n C dX6_count_72 rfl (lv_at hl 0 rfl) ?_
    refine g_6_1 C hk0 kf_X6_19 dX6_count_73 ?_
    refine g_4_3 C (yk_6_1 hk0) kf_X6_268 dX6_count_76 (fun v4 => ?_)
    exact q_iret C hr hlo dX6_count_79
  refine q_ite (fun e4 => ?_) (fun e4 => ?_) _
  · refine q_tin C 80 e4 dX6_count_1 (by decide) (by decide) rfl (by decide) ?_
    refine q_aload_n C dX6_count_80 rfl (lv_at hl 0 rfl) ?_
    refine g_6_1 C hk0 kf_X6_19 dX6_count_81 ?_
    refine g_4_4 C (yk_6_1 hk0) kf_X6_348 dX6_count_84 (fun v5 => ?_)
    exact q_iret C hr hlo dX6_count_87
  refine q_ite (fun e5 => ?_) (fun e5 => ?_) _
  · refine q_tin C 88 e5 dX6_count_1 (by decide) (by decide) rfl (by decide) ?_
    refine q_aload_n C dX6_count_88 rfl (lv_at hl 0 rfl) ?_
    refine g_6_1 C hk0 kf_X6_19 dX6_count_89 ?_
    refine q_c1i C (fun r h => cr_V (As := []) (rest := []) C (m_X4_lines l G F (k0 + 4) σ r h) cb_X4_lines (yk_6_1 hk0) (by decide) rfl (cf_4 (yk_6_1 hk0) _) rfl kl_X6_87 ⟨Nat.le_of_ble_eq_true rfl, Nat.le_of_ble_eq_true rfl⟩ ⟨Nat.zero_le _, Nat.zero_le _⟩ hl.1 rfl (Nat.le_of_ble_eq_true rfl) dX6_count_92 rfl) (fun v6 => ?_)
    exact q_iret C hr hlo dX6_count_95
  refine q_ite (fun e6 => ?_) (fun e6 => ?_) _
  · refine q_tin C 96 e6 dX6_count_1 (by decide) (by decide) rfl (by decide) ?_
    refine q_aload_n C dX6_count_96 rfl (lv_at hl 0 rfl) ?_
    refine g_6_0 C hk0 kf_X6_10 dX6_count_97 ?_
    refine g_2_0 C (yk_6_0 hk0) kf_X6_72 dX6_count_100 (fun v7 => ?_)
    exact q_iret C hr hlo dX6_count_103
  refine q_ite (fun e7 => ?_) (fun e7 => ?_) _
  · refine q_tin C 104 e7 dX6_count_1 (by decide) (by decide) rfl (by decide) ?_
    refine q_aload_n C dX6_count_104 rfl (lv_at hl 0 rfl) ?_
    refine q_c1i C (fun r h => cr_V (As := []) (rest := []) C (m_X6_slotsThere l G F k0 σ r h) cb_X6_slotsThere hk0 (by decide) rfl (cf_6 hk0 _) rfl kl_X6_384 ⟨Nat.le_of_ble_eq_true rfl, Nat.le_of_ble_eq_true rfl⟩ ⟨Nat.zero_le _, Nat.zero_le _⟩ hl.1 rfl (Nat.le_of_ble_eq_true rfl) dX6_count_105 rfl) (fun v8 => ?_)
    exact q_iret C hr hlo dX6_count_108
  refine q_tout C 109 dX6_count_1 (by omega) (by decide) ?_
  refine q_iconst C dX6_count_109 rfl (by decide) (fun v9 => ?_)
  exact q_iret C hr hlo dX6_count_110
def f_X6_image (F : Nat) (k0 : Nat) (a1 : Int) (σ : St) : Option (Int × St) :=
  z_ob 6 k0 <| 
  if a1 < 0 then (
    z_gt (-2) fun v1 =>
    some (v1, σ))
  else (
    z_gt 3 fun v2 =>
    if a1 < v2 then (
      z_ix a1 3 <|
      z_c1 (f_X4_become F (k0 + 10 + 204 + 3 * a1.toNat) (k0 + 4) σ) fun σ1 =>
      z_ix a1 3 <|
      z_gt 1 fun v5 =>
      z_bo v5 <| z_sg (z_up σ1 (k0 + 10 + 204 + 3 * a1.toNat) 5 v5) fun σ2 =>
      z_gt 0 fun v6 =>
      some (v6, σ2))
    else (
      z_gt (-2) fun v7 =>
      some (v7, σ)))
theorem cb_X6_image : CB yX6_image cX6_image 2 (some .int) 1 := ⟨ki_X6_image, kq_X6_image, kn_X6, kc_X6_image, by decide +kernel, by decide +kernel, by decide +kernel⟩
set_option maxRecDepth 20000 in
set_option maxHeartbeats 4000000 in
theorem m_X6_image (l : Launch) (G : GG) (F : Nat) (k0 : Nat) (a1 : Int32) (σ : St) : ∀ r, f_X6_image F k0 a1.toInt σ = some r → MC G l yX6_image cX6_image 2 (some .int) { frames := 2, cells := 0, slots := 0, locals := 66 } [.ref (gad G k0), .int a1] σ (vI r.1) r.2 := by
  refine MC_of (own := RX6) (fun r : Int × St => vI r.1) (fun r : Int × St => r.2) (by decide +kernel) rfl (Nat.le_of_ble_eq_true rfl) ?_
  intro p e s m args below meth c C hr hlo ls hl
  have hl : lv_has ls 2 [(0, .ref (gad G k0)), (1, .int a1)] := hl
  unfold f_X6_image
  refine q_ob (fun hk0 => ?_)
  refine q_iload_n C dX6_image_0 rfl (lv_at hl 1 rfl) ?_
  refine q_if_lt C 9 dX6_image_1 (by decide) ?_ ?_
  · refine q_bipush C dX6_image_9 rfl (by decide) (fun v1 => ?_)
    exact q_iretE C hr hlo dX6_image_11
  · refine q_iload_n C dX6_image_4 rfl (lv_at hl 1 rfl) ?_
    refine q_iconst C dX6_image_5 rfl (by decide) (fun v2 => ?_)
    refine q_icmp_lt C 12 dX6_image_6 (by decide) ?_ ?_
    · refine q_aload_n C dX6_image_12 rfl (lv_at hl 0 rfl) ?_
      refine g_6_3 C hk0 kf_X6_26 dX6_image_13 ?_
      refine q_iload_n C dX6_image_16 rfl (lv_at hl 1 rfl) ?_
      refine a_ald13 C (yk_6_3 hk0) (yl_6_3 hk0) dX6_image_17 (fun h3 => ?_)
      refine q_aload_n C dX6_image_18 rfl (lv_at hl 0 rfl) ?_
      refine g_6_1 C hk0 kf_X6_19 dX6_image_19 ?_
      refine q_cv C (fun r h => cr_V (As := [.ref (gad G (k0 + 4))]) (rest := []) C (m_X4_become l G F (k0 + 10 + 204 + 3 * a1.toInt.toNat) (k0 + 4) σ r h) cb_X4_become (ye_13 (yk_6_3 hk0) (i := a1.toInt.toNat) (by omega)) (by decide) rfl (cf_4 (ye_13 (yk_6_3 hk0) (i := a1.toInt.toNat) (by omega)) _) rfl kl_X6_80 ⟨Nat.le_of_ble_eq_true rfl, Nat.le_of_ble_eq_true rfl⟩ ⟨Nat.zero_le _, Nat.zero_le _⟩ hl.1 rfl (Nat.le_of_ble_eq_true rfl) dX6_image_22 rfl) (fun σ1 => ?_)
      refine q_aload_n C dX6_image_25 rfl (lv_at hl 0 rfl) ?_
      refine g_6_3 C hk0 kf_X6_26 dX6_image_26 ?_
      refine q_iload_n C dX6_image_29 rfl (lv_at hl 1 rfl) ?_
      refine a_ald13 C (yk_6_3 hk0) (yl_6_3 hk0) dX6_image_30 (fun h4 => ?_)
      refine q_iconst C dX6_image_31 rfl (by decide) (fun v5 => ?_)
      refine p_4_5 C (ye_13 (yk_6_3 hk0) (i := a1.toInt.toNat) (by omega)) kf_X6_387 dX6_image_32 (q_sg (fun σ2 => ?_))
      refine q_iconst C dX6_image_35 rfl (by decide) (fun v6 => ?_)
      exact q_iretE C hr hlo dX6_image_36
    · refine q_bipush C dX6_image_9 rfl (by decide) (fun v7 => ?_)
      exact q_iretE C hr hlo dX6_image_11
def f_X6_back (F : Nat) (k0 : Nat) (a1 : Int) (σ : St) : Option (Int × St) :=
  z_ob 6 k0 <| 
  if a1 < 0 then (
    z_gt (-2) fun v1 =>
    some (v1, σ))
  else (
    z_gt 3 fun v2 =>
    if a1 < v2 then (
      z_ix a1 3 <|
      z_gt (σ (k0 + 10 + 204 + 3 * a1.toNat) 5) fun v4 =>
      if ¬ v4 = 0 then (
        z_ix a1 3 <|
        z_c1 (f_X4_become F (k0 + 4) (k0 + 10 + 204 + 3 * a1.toNat) σ) fun σ1 =>
        z_c1 (f_X6_playAnew F k0 σ1) fun σ2 =>
        z_gt 0 fun v6 =>
        some (v6, σ2))
      else (
        z_gt (-6) fun v7 =>
        some (v7, σ)))
    else (
      z_gt (-2) fun v8 =>
      some (v8, σ)))
theorem cb_X6_back : CB yX6_back cX6_back 2 (some .int) 1 := ⟨ki_X6_back, kq_X6_back, kn_X6, kc_X6_back, by decide +kernel, by decide +kernel, by decide +kernel⟩
set_option maxRecDepth 20000 in
set_option maxHeartbeats 4000000 in
theorem m_X6_back (l : Launch) (G : GG) (F : Nat) (k0 : Nat) (a1 : Int32) (σ : St) : ∀ r, f_X6_back F k0 a1.toInt σ = some r → MC G l yX6_back cX6_back 2 (some .int) { frames := 4, cells := 0, slots := 0, locals := 108 } [.ref (gad G k0), .int a1] σ (vI r.1) r.2 := by
  refine MC_of (own := RX6) (fun r : Int × St => vI r.1) (fun r : Int × St => r.2) (by decide +kernel) rfl (Nat.le_of_ble_eq_true rfl) ?_
  intro p e s m args below meth c C hr hlo ls hl
  have hl : lv_has ls 2 [(0, .ref (gad G k0)), (1, .int a1)] := hl
  unfold f_X6_back
  refine q_ob (fun hk0 => ?_)
  refine q_iload_n C dX6_back_0 rfl (lv_at hl 1 rfl) ?_
  refine q_if_lt C 9 dX6_back_1 (by decide) ?_ ?_
  · refine q_bipush C dX6_back_9 rfl (by decide) (fun v1 => ?_)
    exact q_iretE C hr hlo dX6_back_11
  · refine q_iload_n C dX6_back_4 rfl (lv_at hl 1 rfl) ?_
    refine q_iconst C dX6_back_5 rfl (by decide) (fun v2 => ?_)
    refine q_icmp_lt C 12 dX6_back_6 (by decide) ?_ ?_
    · refine q_aload_n C dX6_back_12 rfl (lv_at hl 0 rfl) ?_
      refine g_6_3 C hk0 kf_X6_26 dX6_back_13 ?_
      refine q_iload_n C dX6_back_16 rfl (lv_at hl 1 rfl) ?_
      refine a_ald13 C (yk_6_3 hk0) (yl_6_3 hk0) dX6_back_17 (fun h3 => ?_)
      refine g_4_5 C (ye_13 (yk_6_3 hk0) (i := a1.toInt.toNat) (by omega)) kf_X6_387 dX6_back_18 (fun v4 => ?_)
      refine q_if_ne C 27 dX6_back_21 (by decide) ?_ ?_
      · refine q_aload_n C dX6_back_27 rfl (lv_at hl 0 rfl) ?_
        refine g_6_1 C hk0 kf_X6_19 dX6_back_28 ?_
        refine q_aload_n C dX6_back_31 rfl (lv_at hl 0 rfl) ?_
        refine g_6_3 C hk0 kf_X6_26 dX6_back_32 ?_
        refine q_iload_n C dX6_back_35 rfl (lv_at hl 1 rfl) ?_
        refine a_ald13 C (yk_6_3 hk0) (yl_6_3 hk0) dX6_back_36 (fun h5 => ?_)
        refine q_cv C (fun r h => cr_V (As := [.ref (gad G (k0 + 10 + 204 + 3 * a1.toInt.toNat))]) (rest := []) C (m_X4_become l G F (k0 + 4) (k0 + 10 + 204 + 3 * a1.toInt.toNat) σ r h) cb_X4_become (yk_6_1 hk0) (by decide) rfl (cf_4 (yk_6_1 hk0) _) rfl kl_X6_80 ⟨Nat.le_of_ble_eq_true rfl, Nat.le_of_ble_eq_true rfl⟩ ⟨Nat.zero_le _, Nat.zero_le _⟩ hl.1 rfl (Nat.le_of_ble_eq_true rfl) dX6_back_37 rfl) (fun σ1 => ?_)
        refine q_aload_n C dX6_back_40 rfl (lv_at hl 0 rfl) ?_
        refine q_cv C (fun r h => cr_V (As := []) (rest := []) C (m_X6_playAnew l G F k0 σ1 r h) cb_X6_playAnew hk0 (by decide) rfl (cf_6 hk0 _) rfl kl_X6_84 ⟨Nat.le_of_ble_eq_true rfl, Nat.le_of_ble_eq_true rfl⟩ ⟨Nat.zero_le _, Nat.zero_le _⟩ hl.1 rfl (Nat.le_of_ble_eq_true rfl) dX6_back_41 rfl) (fun σ2 => ?_)
        refine q_iconst C dX6_back_44 rfl (by decide) (fun v6 => ?_)
        exact q_iretE C hr hlo dX6_back_45
      · refine q_bipush C dX6_back_24 rfl (by decide) (fun v7 => ?_)
        exact q_iretE C hr hlo dX6_back_26
    · refine q_bipush C dX6_back_9 rfl (by decide) (fun v8 => ?_)
      exact q_iretE C hr hlo dX6_back_11
def f_X6_row (F : Nat) (k0 : Nat) (a1 : Int) (a2 : Int) (a3 : Int) (σ : St) : Option (Int × St) :=
  z_ob 6 k0 <| 
  z_c1 (f_X6_hasSlot F a1 σ) fun v1 =>
  if v1 = 0 then (
    z_gt (-2) fun v2 =>
    some (v2, σ))
  else (
    if a2 < 0 then (
      z_gt (-2) fun v3 =>
      some (v3, σ))
    else (
      z_gt 3 fun v4 =>
      if v4 < a2 then (
        z_gt (-2) fun v5 =>
        some (v5, σ))
      else (
        z_gt 60 fun v6 =>
        if a3 ≤ v6 then (
          if 0 ≤ a3 then (
            z_ix a1 4 <|
            z_c1 (f_X5_make F (k0 + 11 + 212 + 2 * a1.toNat) a2 a3 σ) fun σ1 =>
            z_gt 0 fun v8 =>
            some (v8, σ1))
          else (
            z_gt (-3) fun v9 =>
            some (v9, σ)))
        else (
          z_gt (-2) fun v10 =>
          some (v10, σ)))))
theorem cb_X6_row : CB yX6_row cX6_row 4 (some .int) 3 := ⟨ki_X6_row, kq_X6_row, kn_X6, kc_X6_row, by decide +kernel, by decide +kernel, by decide +kernel⟩
set_option maxRecDepth 20000 in
set_option maxHeartbeats 4000000 in
theorem m_X6_row (l : Launch) (G : GG) (F : Nat) (k0 : Nat) (a1 : Int32) (a2 : Int32) (a3 : Int32) (σ : St) : ∀ r, f_X6_row F k0 a1.toInt a2.toInt a3.toInt σ = some r → MC G l yX6_row cX6_row 4 (some .int) { frames := 2, cells := 0, slots := 0, locals := 67 } [.ref (gad G k0), .int a1, .int a2, .int a3] σ (vI r.1) r.2 := by
  refine MC_of (own := RX6) (fun r : Int × St => vI r.1) (fun r : Int × St => r.2) (by decide +kernel) rfl (Nat.le_of_ble_eq_true rfl) ?_
  intro p e s m args below meth c C hr hlo ls hl
  have hl : lv_has ls 4 [(0, .ref (gad G k0)), (1, .int a1), (2, .int a2), (3, .int a3)] := hl
  unfold f_X6_row
  refine q_ob (fun hk0 => ?_)
  refine q_iload_n C dX6_row_0 rfl (lv_at hl 1 rfl) ?_
  refine q_c1i C (fun r h => cr_S (As := [.int a1]) (rest := []) C (m_X6_hasSlot l G F a1 σ r h) sb_X6_hasSlot kl_X6_278 ⟨Nat.le_of_ble_eq_true rfl, Nat.le_of_ble_eq_true rfl⟩ ⟨Nat.zero_le _, Nat.zero_le _⟩ hl.1 rfl (Nat.le_of_ble_eq_true rfl) dX6_row_1 rfl) (fun v1 => ?_)
  refine q_if_eq C 22 dX6_row_4 (by decide) ?_ ?_
  · refine q_bipush C dX6_row_22 rfl (by decide) (fun v2 => ?_)
    exact q_iretE C hr hlo dX6_row_24
  · refine q_iload_n C dX6_row_7 rfl (lv_at hl 2 rfl) ?_
    refine q_if_lt C 22 dX6_row_8 (by decide) ?_ ?_
    · refine q_bipush C dX6_row_22 rfl (by decide) (fun v3 => ?_)
      exact q_iretE C hr hlo dX6_row_24
    · refine q_iload_n C dX6_row_11 rfl (lv_at hl 2 rfl) ?_
      refine q_iconst C dX6_row_12 rfl (by decide) (fun v4 => ?_)
      refine q_icmp_gt C 22 dX6_row_13 (by decide) ?_ ?_
      · refine q_bipush C dX6_row_22 rfl (by decide) (fun v5 => ?_)
        exact q_iretE C hr hlo dX6_row_24
      · refine q_iload_n C dX6_row_16 rfl (lv_at hl 3 rfl) ?_
        refine q_bipush C dX6_row_17 rfl (by decide) (fun v6 => ?_)
        refine q_icmp_le C 25 dX6_row_19 (by decide) ?_ ?_
        · refine q_iload_n C dX6_row_25 rfl (lv_at hl 3 rfl) ?_
          refine q_if_ge C 32 dX6_row_26 (by decide) ?_ ?_
          · refine q_aload_n C dX6_row_32 rfl (lv_at hl 0 rfl) ?_
            refine g_6_4 C hk0 kf_X6_32 dX6_row_33 ?_
            refine q_iload_n C dX6_row_36 rfl (lv_at hl 1 rfl) ?_
            refine a_ald14 C (yk_6_4 hk0) (yl_6_4 hk0) dX6_row_37 (fun h7 => ?_)
            refine q_iload_n C dX6_row_38 rfl (lv_at hl 2 rfl) ?_
            refine q_iload_n C dX6_row_39 rfl (lv_at hl 3 rfl) ?_
            refine q_cv C (fun r h => cr_V (As := [.int a2, .int a3]) (rest := []) C (m_X5_make l G F (k0 + 11 + 212 + 2 * a1.toInt.toNat) a2 a3 σ r h) cb_X5_make (ye_14 (yk_6_4 hk0) (i := a1.toInt.toNat) (by omega)) (by decide) rfl (cf_5 (ye_14 (yk_6_4 hk0) (i := a1.toInt.toNat) (by omega)) _) rfl kl_X6_390 ⟨Nat.le_of_ble_eq_true rfl, Nat.le_of_ble_eq_true rfl⟩ ⟨Nat.zero_le _, Nat.zero_le _⟩ hl.1 rfl (Nat.le_of_ble_eq_true rfl) dX6_row_40 rfl) (fun σ1 => ?_)
            refine q_iconst C dX6_row_43 rfl (by decide) (fun v8 => ?_)
            exact q_iretE C hr hlo dX6_row_44
          · refine q_bipush C dX6_row_29 rfl (by decide) (fun v9 => ?_)
            exact q_iretE C hr hlo dX6_row_31
        · refine q_bipush C dX6_row_22 rfl (by decide) (fun v10 => ?_)
          exact q_iretE C hr hlo dX6_row_24
def f_X6_write (F : Nat) (k0 : Nat) (a1 : Int) (a2 : Int) (a3 : Int) (σ : St) : Option (Int × St) :=
  z_ob 6 k0 <| 
  z_c1 (f_X6_hasSlot F a1 σ) fun v1 =>
  if ¬ v1 = 0 then (
    z_ix a1 4 <|
    z_gt (σ (k0 + 11 + 212 + 2 * a1.toNat) 0) fun v3 =>
    if ¬ v3 = 0 then (
      if a2 < 0 then (
        z_gt (-7) fun v4 =>
        some (v4, σ))
      else (
        z_gt (σ (k0 + 11 + 212 + 2 * a1.toNat) 2) fun v5 =>
        if a2 < v5 then (
          z_c1 (f_X5_put F (k0 + 11 + 212 + 2 * a1.toNat) a2 a3 σ) fun σ1 =>
          z_gt 0 fun v6 =>
          some (v6, σ1))
        else (
          z_gt (-7) fun v7 =>
          some (v7, σ))))
    else (
      z_gt (-6) fun v8 =>
      some (v8, σ)))
  else (
    z_gt (-2) fun v9 =>
    some (v9, σ))
theorem cb_X6_write : CB yX6_write cX6_write 6 (some .int) 3 := ⟨ki_X6_write, kq_X6_write, kn_X6, kc_X6_write, by decide +kernel, by decide +kernel, by decide +kernel⟩
set_option maxRecDepth 20000 in
set_option maxHeartbeats 4000000 in
theorem m_X6_write (l : Launch) (G : GG) (F : Nat) (k0 : Nat) (a1 : Int32) (a2 : Int32) (a3 : Int64) (σ : St) : ∀ r, f_X6_write F k0 a1.toInt a2.toInt a3.toInt σ = some r → MC G l yX6_write cX6_write 6 (some .int) { frames := 2, cells := 0, slots := 0, locals := 45 } [.ref (gad G k0), .int a1, .int a2, .long a3] σ (vI r.1) r.2 := by
  refine MC_of (own := RX6) (fun r : Int × St => vI r.1) (fun r : Int × St => r.2) (by decide +kernel) rfl (Nat.le_of_ble_eq_true rfl) ?_
  intro p e s m args below meth c C hr hlo ls hl
  have hl : lv_has ls 6 [(0, .ref (gad G k0)), (1, .int a1), (2, .int a2), (3, .long a3)] := hl
  unfold f_X6_write
  refine q_ob (fun hk0 => ?_)
  refine q_iload_n C dX6_write_0 rfl (lv_at hl 1 rfl) ?_
  refine q_c1i C (fun r h => cr_S (As := [.int a1]) (rest := []) C (m_X6_hasSlot l G F a1 σ r h) sb_X6_hasSlot kl_X6_278 ⟨Nat.le_of_ble_eq_true rfl, Nat.le_of_ble_eq_true rfl⟩ ⟨Nat.zero_le _, Nat.zero_le _⟩ hl.1 rfl (Nat.le_of_ble_eq_true rfl) dX6_write_1 rfl) (fun v1 => ?_)
  refine q_if_ne C 10 dX6_write_4 (by decide) ?_ ?_
  · refine q_aload_n C dX6_write_10 rfl (lv_at hl 0 rfl) ?_
    refine g_6_4 C hk0 kf_X6_32 dX6_write_11 ?_
    refine q_iload_n C dX6_write_14 rfl (lv_at hl 1 rfl) ?_
    refine a_ald14 C (yk_6_4 hk0) (yl_6_4 hk0) dX6_write_15 (fun h2 => ?_)
    refine q_astore C [(5, .ref (gad G (k0 + 11 + 212 + 2 * a1.toInt.toNat))), (0, .ref (gad G k0)), (1, .int a1), (2, .int a2), (3, .long a3)] dX6_write_16 hl (by decide) rfl (fun ls hl => ?_)
    refine q_aload C dX6_write_18 (lv_at hl 0 rfl) ?_
    refine g_5_0 C (ye_14 (yk_6_4 hk0) (i := a1.toInt.toNat) (by omega)) kf_X6_281 dX6_write_20 (fun v3 => ?_)
    refine q_if_ne C 29 dX6_write_23 (by decide) ?_ ?_
    · refine q_iload_n C dX6_write_29 rfl (lv_at hl 3 rfl) ?_
      refine q_if_lt C 42 dX6_write_30 (by decide) ?_ ?_
      · refine q_bipush C dX6_write_42 rfl (by decide) (fun v4 => ?_)
        exact q_iretE C hr hlo dX6_write_44
      · refine q_iload_n C dX6_write_33 rfl (lv_at hl 3 rfl) ?_
        refine q_aload C dX6_write_34 (lv_at hl 0 rfl) ?_
        refine g_5_2 C (ye_14 (yk_6_4 hk0) (i := a1.toInt.toNat) (by omega)) kf_X6_284 dX6_write_36 (fun v5 => ?_)
        refine q_icmp_lt C 45 dX6_write_39 (by decide) ?_ ?_
        · refine q_aload C dX6_write_45 (lv_at hl 0 rfl) ?_
          refine q_iload_n C dX6_write_47 rfl (lv_at hl 3 rfl) ?_
          refine q_lload_n C dX6_write_48 rfl (lv_at hl 4 rfl) ?_
          refine q_cv C (fun r h => cr_V (As := [.int a2, .long a3]) (rest := []) C (m_X5_put l G F (k0 + 11 + 212 + 2 * a1.toInt.toNat) a2 a3 σ r h) cb_X5_put (ye_14 (yk_6_4 hk0) (i := a1.toInt.toNat) (by omega)) (by decide) rfl (cf_5 (ye_14 (yk_6_4 hk0) (i := a1.toInt.toNat) (by omega)) _) rfl kl_X6_394 ⟨Nat.le_of_ble_eq_true rfl, Nat.le_of_ble_eq_true rfl⟩ ⟨Nat.zero_le _, Nat.zero_le _⟩ hl.1 rfl (Nat.le_of_ble_eq_true rfl) dX6_write_49 rfl) (fun σ1 => ?_)
          refine q_iconst C dX6_write_52 rfl (by decide) (fun v6 => ?_)
          exact q_iretE C hr hlo dX6_write_53
        · refine q_bipush C dX6_write_42 rfl (by decide) (fun v7 => ?_)
          exact q_iretE C hr hlo dX6_write_44
    · refine q_bipush C dX6_write_26 rfl (by decide) (fun v8 => ?_)
      exact q_iretE C hr hlo dX6_write_28
  · refine q_bipush C dX6_write_7 rfl (by decide) (fun v9 => ?_)
    exact q_iretE C hr hlo dX6_write_9
def f_X6_paste (F : Nat) (k0 : Nat) (a1 : Int) (a2 : Int) (a3 : Int) (a4 : Int) (a5 : Int) (σ : St) : Option (Int × St) :=
  z_ob 6 k0 <| 
  z_c1 (f_X6_hasSlot F a1 σ) fun v1 =>
  if v1 = 0 then (
    z_gt (-2) fun v2 =>
    some (v2, σ))
  else (
    z_c1 (f_X6_hasSlot F a3 σ) fun v3 =>
    if ¬ v3 = 0 then (
      z_ix a1 4 <|
      z_ix a3 4 <|
      z_gt (σ (k0 + 11 + 212 + 2 * a1.toNat) 0) fun v6 =>
      if v6 = 0 then (
        z_gt (-6) fun v7 =>
        some (v7, σ))
      else (
        z_gt (σ (k0 + 11 + 212 + 2 * a3.toNat) 0) fun v8 =>
        if ¬ v8 = 0 then (
          z_gt (σ (k0 + 11 + 212 + 2 * a1.toNat) 1) fun v9 =>
          z_gt (σ (k0 + 11 + 212 + 2 * a3.toNat) 1) fun v10 =>
          if v9 = v10 then (
            z_c1 (f_X5_reaches F (k0 + 11 + 212 + 2 * a1.toNat) a2 a5 σ) fun v11 =>
            if v11 = 0 then (
              z_gt (-7) fun v12 =>
              some (v12, σ))
            else (
              z_c1 (f_X5_reaches F (k0 + 11 + 212 + 2 * a3.toNat) a4 a5 σ) fun v13 =>
              if ¬ v13 = 0 then (
                z_cpk a2 a4 a5 60 60 <| z_sg (z_cp σ (k0 + 11 + 212 + 2 * a1.toNat + 1) (k0 + 11 + 212 + 2 * a3.toNat + 1) a2 a4 a5) fun σ1 =>
                z_gt 0 fun v14 =>
                some (v14, σ1))
              else (
                z_gt (-7) fun v15 =>
                some (v15, σ))))
          else (
            z_gt (-8) fun v16 =>
            some (v16, σ)))
        else (
          z_gt (-6) fun v17 =>
          some (v17, σ))))
    else (
      z_gt (-2) fun v18 =>
      some (v18, σ)))
theorem cb_X6_paste : CB yX6_paste cX6_paste 8 (some .int) 5 := ⟨ki_X6_paste, kq_X6_paste, kn_X6, kc_X6_paste, by decide +kernel, by decide +kernel, by decide +kernel⟩
set_option maxRecDepth 20000 in
set_option maxHeartbeats 4000000 in
theorem m_X6_paste (l : Launch) (G : GG) (F : Nat) (k0 : Nat) (a1 : Int32) (a2 : Int32) (a3 : Int32) (a4 : Int32) (a5 : Int32) (σ : St) : ∀ r, f_X6_paste F k0 a1.toInt a2.toInt a3.toInt a4.toInt a5.toInt σ = some r → MC G l yX6_paste cX6_paste 8 (some .int) { frames := 1, cells := 0, slots := 0, locals := 45 } [.ref (gad G k0), .int a1, .int a2, .int a3, .int a4, .int a5] σ (vI r.1) r.2 := by
  refine MC_of (own := RX6) (fun r : Int × St => vI r.1) (fun r : Int × St => r.2) (by decide +kernel) rfl (Nat.le_of_ble_eq_true rfl) ?_
  intro p e s m args below meth c C hr hlo ls hl
  have hl : lv_has ls 8 [(0, .ref (gad G k0)), (1, .int a1), (2, .int a2), (3, .int a3), (4, .int a4), (5, .int a5)] := hl
  unfold f_X6_paste
  refine q_ob (fun hk0 => ?_)
  refine q_iload_n C dX6_paste_0 rfl (lv_at hl 1 rfl) ?_
  refine q_c1i C (fun r h => cr_S (As := [.int a1]) (rest := []) C (m_X6_hasSlot l G F a1 σ r h) sb_X6_hasSlot kl_X6_278 ⟨Nat.le_of_ble_eq_true rfl, Nat.le_of_ble_eq_true rfl⟩ ⟨Nat.zero_le _, Nat.zero_le _⟩ hl.1 rfl (Nat.le_of_ble_eq_true rfl) dX6_paste_1 rfl) (fun v1 => ?_)
  refine q_if_eq C 14 dX6_paste_4 (by decide) ?_ ?_
  · refine q_bipush C dX6_paste_14 rfl (by decide) (fun v2 => ?_)
    exact q_iretE C hr hlo dX6_paste_16
  · refine q_iload_n C dX6_paste_7 rfl (lv_at hl 3 rfl) ?_
    refine q_c1i C (fun r h => cr_S (As := [.int a3]) (rest := []) C (m_X6_hasSlot l G F a3 σ r h) sb_X6_hasSlot kl_X6_278 ⟨Nat.le_of_ble_eq_true rfl, Nat.le_of_ble_eq_true rfl⟩ ⟨Nat.zero_le _, Nat.zero_le _⟩ hl.1 rfl (Nat.le_of_ble_eq_true rfl) dX6_paste_8 rfl) (fun v3 => ?_)
    refine q_if_ne C 17 dX6_paste_11 (by decide) ?_ ?_
    · refine q_aload_n C dX6_paste_17 rfl (lv_at hl 0 rfl) ?_
      refine g_6_4 C hk0 kf_X6_32 dX6_paste_18 ?_
      refine q_iload_n C dX6_paste_21 rfl (lv_at hl 1 rfl) ?_
      refine a_ald14 C (yk_6_4 hk0) (yl_6_4 hk0) dX6_paste_22 (fun h4 => ?_)
      refine q_astore C [(6, .ref (gad G (k0 + 11 + 212 + 2 * a1.toInt.toNat))), (0, .ref (gad G k0)), (1, .int a1), (2, .int a2), (3, .int a3), (4, .int a4), (5, .int a5)] dX6_paste_23 hl (by decide) rfl (fun ls hl => ?_)
      refine q_aload_n C dX6_paste_25 rfl (lv_at hl 1 rfl) ?_
      refine g_6_4 C hk0 kf_X6_32 dX6_paste_26 ?_
      refine q_iload_n C dX6_paste_29 rfl (lv_at hl 4 rfl) ?_
      refine a_ald14 C (yk_6_4 hk0) (yl_6_4 hk0) dX6_paste_30 (fun h5 => ?_)
      refine q_astore C [(7, .ref (gad G (k0 + 11 + 212 + 2 * a3.toInt.toNat))), (6, .ref (gad G (k0 + 11 + 212 + 2 * a1.toInt.toNat))), (0, .ref (gad G k0)), (1, .int a1), (2, .int a2), (3, .int a3), (4, .int a4), (5, .int a5)] dX6_paste_31 hl (by decide) rfl (fun ls hl => ?_)
      refine q_aload C dX6_paste_33 (lv_at hl 1 rfl) ?_
      refine g_5_0 C (ye_14 (yk_6_4 hk0) (i := a1.toInt.toNat) (by omega)) kf_X6_281 dX6_paste_35 (fun v6 => ?_)
      refine q_if_eq C 49 dX6_paste_38 (by decide) ?_ ?_
      · refine q_bipush C dX6_paste_49 rfl (by decide) (fun v7 => ?_)
        exact q_iretE C hr hlo dX6_paste_51
      · refine q_aload C dX6_paste_41 (lv_at hl 0 rfl) ?_
        refine g_5_0 C (ye_14 (yk_6_4 hk0) (i := a3.toInt.toNat) (by omega)) kf_X6_281 dX6_paste_43 (fun v8 => ?_)
        refine q_if_ne C 52 dX6_paste_46 (by decide) ?_ ?_
        · refine q_aload C dX6_paste_52 (lv_at hl 1 rfl) ?_
          refine g_5_1 C (ye_14 (yk_6_4 hk0) (i := a1.toInt.toNat) (by omega)) kf_X6_397 dX6_paste_54 (fun v9 => ?_)
          refine q_aload C dX6_paste_57 (lv_at hl 0 rfl) ?_
          refine g_5_1 C (ye_14 (yk_6_4 hk0) (i := a3.toInt.toNat) (by omega)) kf_X6_397 dX6_paste_59 (fun v10 => ?_)
          refine q_icmp_eq C 68 dX6_paste_62 (by decide) ?_ ?_
          · refine q_aload C dX6_paste_68 (lv_at hl 1 rfl) ?_
            refine q_iload_n C dX6_paste_70 rfl (lv_at hl 4 rfl) ?_
            refine q_iload C dX6_paste_71 (lv_at hl 7 rfl) ?_
            refine q_c1i C (fun r h => cr_V (As := [.int a2, .int a5]) (rest := []) C (m_X5_reaches l G F (k0 + 11 + 212 + 2 * a1.toInt.toNat) a2 a5 σ r h) cb_X5_reaches (ye_14 (yk_6_4 hk0) (i := a1.toInt.toNat) (by omega)) (by decide) rfl (cf_5 (ye_14 (yk_6_4 hk0) (i := a1.toInt.toNat) (by omega)) _) rfl kl_X6_400 ⟨Nat.le_of_ble_eq_true rfl, Nat.le_of_ble_eq_true rfl⟩ ⟨Nat.zero_le _, Nat.zero_le _⟩ hl.1 rfl (Nat.le_of_ble_eq_true rfl) dX6_paste_73 rfl) (fun v11 => ?_)
            refine q_if_eq C 91 dX6_paste_76 (by decide) ?_ ?_
            · refine q_bipush C dX6_paste_91 rfl (by decide) (fun v12 => ?_)
              exact q_iretE C hr hlo dX6_paste_93
            · refine q_aload C dX6_paste_79 (lv_at hl 0 rfl) ?_
              refine q_iload C dX6_paste_81 (lv_at hl 6 rfl) ?_
              refine q_iload C dX6_paste_83 (lv_at hl 7 rfl) ?_
              refine q_c1i C (fun r h => cr_V (As := [.int a4, .int a5]) (rest := []) C (m_X5_reaches l G F (k0 + 11 + 212 + 2 * a3.toInt.toNat) a4 a5 σ r h) cb_X5_reaches (ye_14 (yk_6_4 hk0) (i := a3.toInt.toNat) (by omega)) (by decide) rfl (cf_5 (ye_14 (yk_6_4 hk0) (i := a3.toInt.toNat) (by omega)) _) rfl kl_X6_400 ⟨Nat.le_of_ble_eq_true rfl, Nat.le_of_ble_eq_true rfl⟩ ⟨Nat.zero_le _, Nat.zero_le _⟩ hl.1 rfl (Nat.le_of_ble_eq_true rfl) dX6_paste_85 rfl) (fun v13 => ?_)
              refine q_if_ne C 94 dX6_paste_88 (by decide) ?_ ?_
              · refine q_aload C dX6_paste_94 (lv_at hl 1 rfl) ?_
                refine gN_5_3 C (ye_14 (yk_6_4 hk0) (i := a1.toInt.toNat) (by omega)) rfl dX6_paste_96 ?_
                refine q_iload_n C dX6_paste_99 rfl (lv_at hl 4 rfl) ?_
                refine q_aload C dX6_paste_100 (lv_at hl 0 rfl) ?_
                refine gN_5_3 C (ye_14 (yk_6_4 hk0) (i := a3.toInt.toNat) (by omega)) rfl dX6_paste_102 ?_
                refine q_iload C dX6_paste_105 (lv_at hl 6 rfl) ?_
                refine q_iload C dX6_paste_107 (lv_at hl 7 rfl) ?_
                refine q_copyl C (yk_5_3 (ye_14 (yk_6_4 hk0) (i := a1.toInt.toNat) (by omega))) (yl_5_3 (ye_14 (yk_6_4 hk0) (i := a1.toInt.toNat) (by omega))) (yk_5_3 (ye_14 (yk_6_4 hk0) (i := a3.toInt.toNat) (by omega))) (yl_5_3 (ye_14 (yk_6_4 hk0) (i := a3.toInt.toNat) (by omega))) kl_X6_407 ⟨Nat.le_of_ble_eq_true rfl, by decide +kernel⟩ hl.1 dX6_paste_109 (q_sg (fun σ1 => ?_))
                refine q_iconst C dX6_paste_112 rfl (by decide) (fun v14 => ?_)
                exact q_iretE C hr hlo dX6_paste_113
              · refine q_bipush C dX6_paste_91 rfl (by decide) (fun v15 => ?_)
                exact q_iretE C hr hlo dX6_paste_93
          · refine q_bipush C dX6_paste_65 rfl (by decide) (fun v16 => ?_)
            exact q_iretE C hr hlo dX6_paste_67
        · refine q_bipush C dX6_paste_49 rfl (by decide) (fun v17 => ?_)
          exact q_iretE C hr hlo dX6_paste_51
    · refine q_bipush C dX6_paste_14 rfl (by decide) (fun v18 => ?_)
      exact q_iretE C hr hlo dX6_paste_16
def f_X7_in (F : Nat) (a1 : Int) (a2 : Int) (a3 : Int) (σ : St) : Option (Int) :=
  
  z_gt (z_cmp a1 a2) fun v1 =>
  if v1 < 0 then (
    z_gt 0 fun v2 =>
    z_bo v2 <| some v2)
  else (
    z_gt (z_cmp a1 a3) fun v3 =>
    if 0 < v3 then (
      z_gt 0 fun v4 =>
      z_bo v4 <| some v4)
    else (
      z_gt 1 fun v5 =>
      z_bo v5 <| some v5))
theorem sb_X7_in : SB yX7_in cX7_in 6 (some .boolean) 3 := ⟨ks_X7_in, kn_X7, kc_X7_in, by decide +kernel, by decide +kernel, by decide +kernel⟩
set_option maxRecDepth 20000 in
set_option maxHeartbeats 4000000 in
theorem m_X7_in (l : Launch) (G : GG) (F : Nat) (a1 : Int64) (a2 : Int64) (a3 : Int64) (σ : St) : ∀ r, f_X7_in F a1.toInt a2.toInt a3.toInt σ = some r → MC G l yX7_in cX7_in 6 (some .boolean) { frames := 0, cells := 0, slots := 0, locals := 0 } [.long a1, .long a2, .long a3] σ (vI r) σ := by
  refine MC_of (own := RX7) (vI) (fun _ => σ) (by decide +kernel) rfl (Nat.le_of_ble_eq_true rfl) ?_
  intro p e s m args below meth c C hr hlo ls hl
  have hl : lv_has ls 6 [(0, .long a1), (2, .long a2), (4, .long a3)] := hl
  unfold f_X7_in
  refine q_lload_n C dX7_in_0 rfl (lv_at hl 0 rfl) ?_
  refine q_lload_n C dX7_in_1 rfl (lv_at hl 1 rfl) ?_
  refine q_lcmp C dX7_in_2 (fun v1 => ?_)
  refine q_if_lt C 17 dX7_in_3 (by decide) ?_ ?_
  · refine q_iconst C dX7_in_17 rfl (by decide) (fun v2 => ?_)
    exact q_zret C hr hlo dX7_in_18
  · refine q_lload_n C dX7_in_6 rfl (lv_at hl 0 rfl) ?_
    refine q_lload C dX7_in_7 (lv_at hl 2 rfl) ?_
    refine q_lcmp C dX7_in_9 (fun v3 => ?_)
    refine q_if_gt C 17 dX7_in_10 (by decide) ?_ ?_
    · refine q_iconst C dX7_in_17 rfl (by decide) (fun v4 => ?_)
      exact q_zret C hr hlo dX7_in_18
    · refine q_iconst C dX7_in_13 rfl (by decide) (fun v5 => ?_)
      refine q_goto C 18 dX7_in_14 (by decide) ?_
      exact q_zret C hr hlo dX7_in_18
