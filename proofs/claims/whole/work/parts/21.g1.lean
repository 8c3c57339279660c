def f_X2_fail (F : Nat) (k0 : Nat) (a1 : Int) (σ : St) : Option (Int × St) :=
  z_ob 2 k0 <| 
  z_sg (z_up σ k0 1 a1) fun σ1 =>
  z_gt (σ1 k0 6) fun v1 =>
  z_sg (z_up σ1 k0 2 v1) fun σ2 =>
  z_gt 0 fun v2 =>
  z_bo v2 <| some (v2, σ2)
theorem cb_X2_fail : CB yX2_fail cX2_fail 2 (some .boolean) 1 := ⟨ki_X2_fail, kq_X2_fail, kn_X2, kc_X2_fail, by decide +kernel, by decide +kernel, by decide +kernel⟩
set_option maxRecDepth 20000 in
set_option maxHeartbeats 4000000 in
theorem m_X2_fail (l : Launch) (G : GG) (F : Nat) (k0 : Nat) (a1 : Int32) (σ : St) : ∀ r, f_X2_fail F k0 a1.toInt σ = some r → MC G l yX2_fail cX2_fail 2 (some .boolean) { frames := 0, cells := 0, slots := 0, locals := 0 } [.ref (gad G k0), .int a1] σ (vI r.1) r.2 := by
  refine MC_of (own := RX2) (fun r : Int × St => vI r.1) (fun r : Int × St => r.2) (by decide +kernel) rfl (Nat.le_of_ble_eq_true rfl) ?_
  intro p e s m args below meth c C hr hlo ls hl
  have hl : lv_has ls 2 [(0, .ref (gad G k0)), (1, .int a1)] := hl
  unfold f_X2_fail
  refine q_ob (fun hk0 => ?_)
  refine q_aload_n C dX2_fail_0 rfl (lv_at hl 0 rfl) ?_
  refine q_iload_n C dX2_fail_1 rfl (lv_at hl 1 rfl) ?_
  refine p_2_1 C hk0 kf_X2_26 dX2_fail_2 (q_sg (fun σ1 => ?_))
  refine q_aload_n C dX2_fail_5 rfl (lv_at hl 0 rfl) ?_
  refine q_aload_n C dX2_fail_6 rfl (lv_at hl 0 rfl) ?_
  refine g_2_6 C hk0 kf_X2_111 dX2_fail_7 (fun v1 => ?_)
  refine p_2_2 C hk0 kf_X2_9 dX2_fail_10 (q_sg (fun σ2 => ?_))
  refine q_iconst C dX2_fail_13 rfl (by decide) (fun v2 => ?_)
  exact q_zretE C hr hlo dX2_fail_14
def f_X2_passWord (F : Nat) (k0 : Nat) (a1 : Nat) (σ : St) : Option (Int × St) :=
  z_ob 2 k0 <| z_st a1 <| 
  z_c1 (f_X2_isWord F k0 a1 σ) fun v1 =>
  if ¬ v1 = 0 then (
    z_c1 (f_X2_advance F k0 σ) fun σ1 =>
    z_gt 1 fun v2 =>
    z_bo v2 <| some (v2, σ1))
  else (
    z_gt 1 fun v3 =>
    z_c2 (f_X2_fail F k0 v3 σ) fun v4 σ2 =>
    z_bo v4 <| some (v4, σ2))
theorem cb_X2_passWord : CB yX2_passWord cX2_passWord 2 (some .boolean) 1 := ⟨ki_X2_passWord, kq_X2_passWord, kn_X2, kc_X2_passWord, by decide +kernel, by decide +kernel, by decide +kernel⟩
set_option maxRecDepth 20000 in
set_option maxHeartbeats 4000000 in
theorem m_X2_passWord (l : Launch) (G : GG) (F : Nat) (k0 : Nat) (a1 : Nat) (σ : St) : ∀ r, f_X2_passWord F k0 a1 σ = some r → MC G l yX2_passWord cX2_passWord 2 (some .boolean) { frames := 5, cells := 0, slots := 0, locals := 107 } [.ref (gad G k0), .ref (gak G a1)] σ (vI r.1) r.2 := by
  refine MC_of (own := RX2) (fun r : Int × St => vI r.1) (fun r : Int × St => r.2) (by decide +kernel) rfl (Nat.le_of_ble_eq_true rfl) ?_
  intro p e s m args below meth c C hr hlo ls hl
  have hl : lv_has ls 2 [(0, .ref (gad G k0)), (1, .ref (gak G a1))] := hl
  unfold f_X2_passWord
  refine q_ob (fun hk0 => ?_)
  refine q_st (fun ht1 => ?_)
  refine q_aload_n C dX2_passWord_0 rfl (lv_at hl 0 rfl) ?_
  refine q_aload_n C dX2_passWord_1 rfl (lv_at hl 1 rfl) ?_
  refine q_c1i C (fun r h => cr_V (As := [.ref (gak G a1)]) (rest := []) C (m_X2_isWord l G F k0 a1 σ r h) cb_X2_isWord hk0 (by decide) rfl (cf_2 hk0 _) rfl kl_X2_114 ⟨Nat.le_of_ble_eq_true rfl, Nat.le_of_ble_eq_true rfl⟩ ⟨Nat.zero_le _, Nat.zero_le _⟩ hl.1 rfl (Nat.le_of_ble_eq_true rfl) dX2_passWord_2 rfl) (fun v1 => ?_)
  refine q_if_ne C 14 dX2_passWord_5 (by decide) ?_ ?_
  · refine q_aload_n C dX2_passWord_14 rfl (lv_at hl 0 rfl) ?_
    refine q_cv C (fun r h => cr_V (As := []) (rest := []) C (m_X2_advance l G F k0 σ r h) cb_X2_advance hk0 (by decide) rfl (cf_2 hk0 _) rfl kl_X2_37 ⟨Nat.le_of_ble_eq_true rfl, Nat.le_of_ble_eq_true rfl⟩ ⟨Nat.zero_le _, Nat.zero_le _⟩ hl.1 rfl (Nat.le_of_ble_eq_true rfl) dX2_passWord_15 rfl) (fun σ1 => ?_)
    refine q_iconst C dX2_passWord_18 rfl (by decide) (fun v2 => ?_)
    exact q_zretE C hr hlo dX2_passWord_19
  · refine q_aload_n C dX2_passWord_8 rfl (lv_at hl 0 rfl) ?_
    refine q_iconst C dX2_passWord_9 rfl (by decide) (fun v3 => ?_)
    refine q_c2i C (fun r h => cr_V (As := [.int v3]) (rest := []) C (m_X2_fail l G F k0 v3 σ r h) cb_X2_fail hk0 (by decide) rfl (cf_2 hk0 _) rfl kl_X2_84 ⟨Nat.le_of_ble_eq_true rfl, Nat.le_of_ble_eq_true rfl⟩ ⟨Nat.zero_le _, Nat.zero_le _⟩ hl.1 rfl (Nat.le_of_ble_eq_true rfl) dX2_passWord_10 rfl) (fun v4 σ2 => ?_)
    exact q_zretE C hr hlo dX2_passWord_13
def f_X2_passNumber (F : Nat) (k0 : Nat) (a1 : Int) (a2 : Int) (σ : St) : Option (Int × St) :=
  z_ob 2 k0 <| 
  z_gt (σ k0 5) fun v1 =>
  z_gt 2 fun v2 =>
  if v1 = v2 then (
    z_gt (σ k0 8) fun v3 =>
    if v3 < a1 then (
      z_gt 2 fun v4 =>
      z_c2 (f_X2_fail F k0 v4 σ) fun v5 σ1 =>
      z_bo v5 <| some (v5, σ1))
    else (
      z_gt (σ k0 8) fun v6 =>
      if v6 ≤ a2 then (
        z_gt (σ k0 8) fun v7 =>
        z_sg (z_up σ k0 9 v7) fun σ2 =>
        z_c1 (f_X2_advance F k0 σ2) fun σ3 =>
        z_gt 1 fun v8 =>
        z_bo v8 <| some (v8, σ3))
      else (
        z_gt 2 fun v9 =>
        z_c2 (f_X2_fail F k0 v9 σ) fun v10 σ4 =>
        z_bo v10 <| some (v10, σ4))))
  else (
    z_gt 1 fun v11 =>
    z_c2 (f_X2_fail F k0 v11 σ) fun v12 σ5 =>
    z_bo v12 <| some (v12, σ5))
theorem cb_X2_passNumber : CB yX2_passNumber cX2_passNumber 3 (some .boolean) 2 := ⟨ki_X2_passNumber, kq_X2_passNumber, kn_X2, kc_X2_passNumber, by decide +kernel, by decide +kernel, by decide +kernel⟩
set_option maxRecDepth 20000 in
set_option maxHeartbeats 4000000 in
theorem m_X2_passNumber (l : Launch) (G : GG) (F : Nat) (k0 : Nat) (a1 : Int32) (a2 : Int32) (σ : St) : ∀ r, f_X2_passNumber F k0 a1.toInt a2.toInt σ = some r → MC G l yX2_passNumber cX2_passNumber 3 (some .boolean) { frames := 3, cells := 0, slots := 0, locals := 89 } [.ref (gad G k0), .int a1, .int a2] σ (vI r.1) r.2 := by
  refine MC_of (own := RX2) (fun r : Int × St => vI r.1) (fun r : Int × St => r.2) (by decide +kernel) rfl (Nat.le_of_ble_eq_true rfl) ?_
  intro p e s m args below meth c C hr hlo ls hl
  have hl : lv_has ls 3 [(0, .ref (gad G k0)), (1, .int a1), (2, .int a2)] := hl
  unfold f_X2_passNumber
  refine q_ob (fun hk0 => ?_)
  refine q_aload_n C dX2_passNumber_0 rfl (lv_at hl 0 rfl) ?_
  refine g_2_5 C hk0 kf_X2_40 dX2_passNumber_1 (fun v1 => ?_)
  refine q_iconst C dX2_passNumber_4 rfl (by decide) (fun v2 => ?_)
  refine q_icmp_eq C 14 dX2_passNumber_5 (by decide) ?_ ?_
  · refine q_aload_n C dX2_passNumber_14 rfl (lv_at hl 0 rfl) ?_
    refine g_2_8 C hk0 kf_X2_100 dX2_passNumber_15 (fun v3 => ?_)
    refine q_iload_n C dX2_passNumber_18 rfl (lv_at hl 1 rfl) ?_
    refine q_icmp_lt C 30 dX2_passNumber_19 (by decide) ?_ ?_
    · refine q_aload_n C dX2_passNumber_30 rfl (lv_at hl 0 rfl) ?_
      refine q_iconst C dX2_passNumber_31 rfl (by decide) (fun v4 => ?_)
      refine q_c2i C (fun r h => cr_V (As := [.int v4]) (rest := []) C (m_X2_fail l G F k0 v4 σ r h) cb_X2_fail hk0 (by decide) rfl (cf_2 hk0 _) rfl kl_X2_84 ⟨Nat.le_of_ble_eq_true rfl, Nat.le_of_ble_eq_true rfl⟩ ⟨Nat.zero_le _, Nat.zero_le _⟩ hl.1 rfl (Nat.le_of_ble_eq_true rfl) dX2_passNumber_32 rfl) (fun v5 σ1 => ?_)
      exact q_zretE C hr hlo dX2_passNumber_35
    · refine q_aload_n C dX2_passNumber_22 rfl (lv_at hl 0 rfl) ?_
      refine g_2_8 C hk0 kf_X2_100 dX2_passNumber_23 (fun v6 => ?_)
      refine q_iload_n C dX2_passNumber_26 rfl (lv_at hl 2 rfl) ?_
      refine q_icmp_le C 36 dX2_passNumber_27 (by decide) ?_ ?_
      · refine q_aload_n C dX2_passNumber_36 rfl (lv_at hl 0 rfl) ?_
        refine q_aload_n C dX2_passNumber_37 rfl (lv_at hl 0 rfl) ?_
        refine g_2_8 C hk0 kf_X2_100 dX2_passNumber_38 (fun v7 => ?_)
        refine p_2_9 C hk0 kf_X2_62 dX2_passNumber_41 (q_sg (fun σ2 => ?_))
        refine q_aload_n C dX2_passNumber_44 rfl (lv_at hl 0 rfl) ?_
        refine q_cv C (fun r h => cr_V (As := []) (rest := []) C (m_X2_advance l G F k0 σ2 r h) cb_X2_advance hk0 (by decide) rfl (cf_2 hk0 _) rfl kl_X2_37 ⟨Nat.le_of_ble_eq_true rfl, Nat.le_of_ble_eq_true rfl⟩ ⟨Nat.zero_le _, Nat.zero_le _⟩ hl.1 rfl (Nat.le_of_ble_eq_true rfl) dX2_passNumber_45 rfl) (fun σ3 => ?_)
        refine q_iconst C dX2_passNumber_48 rfl (by decide) (fun v8 => ?_)
        exact q_zretE C hr hlo dX2_passNumber_49
      · refine q_aload_n C dX2_passNumber_30 rfl (lv_at hl 0 rfl) ?_
        refine q_iconst C dX2_passNumber_31 rfl (by decide) (fun v9 => ?_)
        refine q_c2i C (fun r h => cr_V (As := [.int v9]) (rest := []) C (m_X2_fail l G F k0 v9 σ r h) cb_X2_fail hk0 (by decide) rfl (cf_2 hk0 _) rfl kl_X2_84 ⟨Nat.le_of_ble_eq_true rfl, Nat.le_of_ble_eq_true rfl⟩ ⟨Nat.zero_le _, Nat.zero_le _⟩ hl.1 rfl (Nat.le_of_ble_eq_true rfl) dX2_passNumber_32 rfl) (fun v10 σ4 => ?_)
        exact q_zretE C hr hlo dX2_passNumber_35
  · refine q_aload_n C dX2_passNumber_8 rfl (lv_at hl 0 rfl) ?_
    refine q_iconst C dX2_passNumber_9 rfl (by decide) (fun v11 => ?_)
    refine q_c2i C (fun r h => cr_V (As := [.int v11]) (rest := []) C (m_X2_fail l G F k0 v11 σ r h) cb_X2_fail hk0 (by decide) rfl (cf_2 hk0 _) rfl kl_X2_84 ⟨Nat.le_of_ble_eq_true rfl, Nat.le_of_ble_eq_true rfl⟩ ⟨Nat.zero_le _, Nat.zero_le _⟩ hl.1 rfl (Nat.le_of_ble_eq_true rfl) dX2_passNumber_10 rfl) (fun v12 σ5 => ?_)
    exact q_zretE C hr hlo dX2_passNumber_13
def f_X2_passSign (F : Nat) (k0 : Nat) (σ : St) : Option (Int × St) :=
  z_ob 2 k0 <| 
  z_gt (σ k0 5) fun v1 =>
  z_gt 3 fun v2 =>
  if v1 = v2 then (
    z_c1 (f_X2_advance F k0 σ) fun σ1 =>
    z_gt 1 fun v3 =>
    z_bo v3 <| some (v3, σ1))
  else (
    z_gt 1 fun v4 =>
    z_c2 (f_X2_fail F k0 v4 σ) fun v5 σ2 =>
    z_bo v5 <| some (v5, σ2))
theorem cb_X2_passSign : CB yX2_passSign cX2_passSign 1 (some .boolean) 0 := ⟨ki_X2_passSign, kq_X2_passSign, kn_X2, kc_X2_passSign, by decide +kernel, by decide +kernel, by decide +kernel⟩
set_option maxRecDepth 20000 in
set_option maxHeartbeats 4000000 in
theorem m_X2_passSign (l : Launch) (G : GG) (F : Nat) (k0 : Nat) (σ : St) : ∀ r, f_X2_passSign F k0 σ = some r → MC G l yX2_passSign cX2_passSign 1 (some .boolean) { frames := 3, cells := 0, slots := 0, locals := 89 } [.ref (gad G k0)] σ (vI r.1) r.2 := by
  refine MC_of (own := RX2) (fun r : Int × St => vI r.1) (fun r : Int × St => r.2) (by decide +kernel) rfl (Nat.le_of_ble_eq_true rfl) ?_
  intro p e s m args below meth c C hr hlo ls hl
  have hl : lv_has ls 1 [(0, .ref (gad G k0))] := hl
  unfold f_X2_passSign
  refine q_ob (fun hk0 => ?_)
  refine q_aload_n C dX2_passSign_0 rfl (lv_at hl 0 rfl) ?_
  refine g_2_5 C hk0 kf_X2_40 dX2_passSign_1 (fun v1 => ?_)
  refine q_iconst C dX2_passSign_4 rfl (by decide) (fun v2 => ?_)
  refine q_icmp_eq C 14 dX2_passSign_5 (by decide) ?_ ?_
  · refine q_aload_n C dX2_passSign_14 rfl (lv_at hl 0 rfl) ?_
    refine q_cv C (fun r h => cr_V (As := []) (rest := []) C (m_X2_advance l G F k0 σ r h) cb_X2_advance hk0 (by decide) rfl (cf_2 hk0 _) rfl kl_X2_37 ⟨Nat.le_of_ble_eq_true rfl, Nat.le_of_ble_eq_true rfl⟩ ⟨Nat.zero_le _, Nat.zero_le _⟩ hl.1 rfl (Nat.le_of_ble_eq_true rfl) dX2_passSign_15 rfl) (fun σ1 => ?_)
    refine q_iconst C dX2_passSign_18 rfl (by decide) (fun v3 => ?_)
    exact q_zretE C hr hlo dX2_passSign_19
  · refine q_aload_n C dX2_passSign_8 rfl (lv_at hl 0 rfl) ?_
    refine q_iconst C dX2_passSign_9 rfl (by decide) (fun v4 => ?_)
    refine q_c2i C (fun r h => cr_V (As := [.int v4]) (rest := []) C (m_X2_fail l G F k0 v4 σ r h) cb_X2_fail hk0 (by decide) rfl (cf_2 hk0 _) rfl kl_X2_84 ⟨Nat.le_of_ble_eq_true rfl, Nat.le_of_ble_eq_true rfl⟩ ⟨Nat.zero_le _, Nat.zero_le _⟩ hl.1 rfl (Nat.le_of_ble_eq_true rfl) dX2_passSign_10 rfl) (fun v5 σ2 => ?_)
    exact q_zretE C hr hlo dX2_passSign_13
def f_X2_readHead (F : Nat) (k0 : Nat) (a1 : Nat) (σ : St) : Option (Int × St) :=
  z_ob 2 k0 <| z_ob 4 a1 <| 
  z_c2 (f_X2_passWord F k0 0 σ) fun v1 σ1 =>
  if v1 = 0 then (
    z_gt 0 fun v2 =>
    z_bo v2 <| some (v2, σ1))
  else (
    z_c2 (f_X2_passWord F k0 1 σ1) fun v3 σ2 =>
    if v3 = 0 then (
      z_gt 0 fun v4 =>
      z_bo v4 <| some (v4, σ2))
    else (
      z_gt 2 fun v5 =>
      z_gt 32 fun v6 =>
      z_c2 (f_X2_passNumber F k0 v5 v6 σ2) fun v7 σ3 =>
      if ¬ v7 = 0 then (
        z_gt (σ3 k0 9) fun v8 =>
        z_sg (z_up σ3 a1 0 v8) fun σ4 =>
        z_c2 (f_X2_passWord F k0 2 σ4) fun v9 σ5 =>
        if v9 = 0 then (
          z_gt 0 fun v10 =>
          z_bo v10 <| some (v10, σ5))
        else (
          z_gt 0 fun v11 =>
          z_gt 3 fun v12 =>
          z_c2 (f_X2_passNumber F k0 v11 v12 σ5) fun v13 σ6 =>
          if ¬ v13 = 0 then (
            z_gt (σ6 k0 9) fun v14 =>
            z_sg (z_up σ6 a1 1 v14) fun σ7 =>
            z_c2 (f_X2_passWord F k0 3 σ7) fun v15 σ8 =>
            if v15 = 0 then (
              z_gt 0 fun v16 =>
              z_bo v16 <| some (v16, σ8))
            else (
              z_gt 0 fun v17 =>
              z_gt 10 fun v18 =>
              z_c2 (f_X2_passNumber F k0 v17 v18 σ8) fun v19 σ9 =>
              if ¬ v19 = 0 then (
                z_gt (σ9 k0 9) fun v20 =>
                z_sg (z_up σ9 a1 2 v20) fun σ10 =>
                z_c2 (f_X2_passSign F k0 σ10) fun v21 σ11 =>
                z_bo v21 <| some (v21, σ11))
              else (
                z_gt 0 fun v22 =>
                z_bo v22 <| some (v22, σ9))))
          else (
            z_gt 0 fun v23 =>
            z_bo v23 <| some (v23, σ6))))
      else (
        z_gt 0 fun v24 =>
        z_bo v24 <| some (v24, σ3))))
theorem cb_X2_readHead : CB yX2_readHead cX2_readHead 2 (some .boolean) 1 := ⟨ki_X2_readHead, kq_X2_readHead, kn_X2, kc_X2_readHead, by decide +kernel, by decide +kernel, by decide +kernel⟩
set_option maxRecDepth 20000 in
set_option maxHeartbeats 4000000 in
theorem m_X2_readHead (l : Launch) (G : GG) (F : Nat) (k0 : Nat) (a1 : Nat) (σ : St) : ∀ r, f_X2_readHead F k0 a1 σ = some r → MC G l yX2_readHead cX2_readHead 2 (some .boolean) { frames := 6, cells := 0, slots := 0, locals := 128 } [.ref (gad G k0), .ref (gad G a1)] σ (vI r.1) r.2 := by
  refine MC_of (own := RX2) (fun r : Int × St => vI r.1) (fun r : Int × St => r.2) (by decide +kernel) rfl (Nat.le_of_ble_eq_true rfl) ?_
  intro p e s m args below meth c C hr hlo ls hl
  have hl : lv_has ls 2 [(0, .ref (gad G k0)), (1, .ref (gad G a1))] := hl
  unfold f_X2_readHead
  refine q_ob (fun hk0 => ?_)
  refine q_ob (fun hk1 => ?_)
  refine q_aload_n C dX2_readHead_0 rfl (lv_at hl 0 rfl) ?_
  refine q_ldcs C 0 (tx := "store") (List.mem_of_getElem? (i := 0) rfl) dX2_readHead_1 ?_
  refine q_c2i C (fun r h => cr_V (As := [.ref (gak G 0)]) (rest := []) C (m_X2_passWord l G F k0 0 σ r h) cb_X2_passWord hk0 (by decide) rfl (cf_2 hk0 _) rfl kl_X2_52 ⟨Nat.le_of_ble_eq_true rfl, Nat.le_of_ble_eq_true rfl⟩ ⟨Nat.zero_le _, Nat.zero_le _⟩ hl.1 rfl (Nat.le_of_ble_eq_true rfl) dX2_readHead_3 rfl) (fun v1 σ1 => ?_)
  refine q_if_eq C 28 dX2_readHead_6 (by decide) ?_ ?_
  · refine q_iconst C dX2_readHead_28 rfl (by decide) (fun v2 => ?_)
    exact q_zretE C hr hlo dX2_readHead_29
  · refine q_aload_n C dX2_readHead_9 rfl (lv_at hl 0 rfl) ?_
    refine q_ldcs C 1 (tx := "cells") (List.mem_of_getElem? (i := 1) rfl) dX2_readHead_10 ?_
    refine q_c2i C (fun r h => cr_V (As := [.ref (gak G 1)]) (rest := []) C (m_X2_passWord l G F k0 1 σ1 r h) cb_X2_passWord hk0 (by decide) rfl (cf_2 hk0 _) rfl kl_X2_52 ⟨Nat.le_of_ble_eq_true rfl, Nat.le_of_ble_eq_true rfl⟩ ⟨Nat.zero_le _, Nat.zero_le _⟩ hl.1 rfl (Nat.le_of_ble_eq_true rfl) dX2_readHead_12 rfl) (fun v3 σ2 => ?_)
    refine q_if_eq C 28 dX2_readHead_15 (by decide) ?_ ?_
    · refine q_iconst C dX2_readHead_28 rfl (by decide) (fun v4 => ?_)
      exact q_zretE C hr hlo dX2_readHead_29
    · refine q_aload_n C dX2_readHead_18 rfl (lv_at hl 0 rfl) ?_
      refine q_iconst C dX2_readHead_19 rfl (by decide) (fun v5 => ?_)
      refine q_bipush C dX2_readHead_20 rfl (by decide) (fun v6 => ?_)
      refine q_c2i C (fun r h => cr_V (As := [.int v5, .int v6]) (rest := []) C (m_X2_passNumber l G F k0 v5 v6 σ2 r h) cb_X2_passNumber hk0 (by decide) rfl (cf_2 hk0 _) rfl kl_X2_58 ⟨Nat.le_of_ble_eq_true rfl, Nat.le_of_ble_eq_true rfl⟩ ⟨Nat.zero_le _, Nat.zero_le _⟩ hl.1 rfl (Nat.le_of_ble_eq_true rfl) dX2_readHead_22 rfl) (fun v7 σ3 => ?_)
      refine q_if_ne C 30 dX2_readHead_25 (by decide) ?_ ?_
      · refine q_aload_n C dX2_readHead_30 rfl (lv_at hl 1 rfl) ?_
        refine q_aload_n C dX2_readHead_31 rfl (lv_at hl 0 rfl) ?_
        refine g_2_9 C hk0 kf_X2_62 dX2_readHead_32 (fun v8 => ?_)
        refine p_4_0 C hk1 kf_X2_65 dX2_readHead_35 (q_sg (fun σ4 => ?_))
        refine q_aload_n C dX2_readHead_38 rfl (lv_at hl 0 rfl) ?_
        refine q_ldcs C 2 (tx := "law") (List.mem_of_getElem? (i := 2) rfl) dX2_readHead_39 ?_
        refine q_c2i C (fun r h => cr_V (As := [.ref (gak G 2)]) (rest := []) C (m_X2_passWord l G F k0 2 σ4 r h) cb_X2_passWord hk0 (by decide) rfl (cf_2 hk0 _) rfl kl_X2_52 ⟨Nat.le_of_ble_eq_true rfl, Nat.le_of_ble_eq_true rfl⟩ ⟨Nat.zero_le _, Nat.zero_le _⟩ hl.1 rfl (Nat.le_of_ble_eq_true rfl) dX2_readHead_41 rfl) (fun v9 σ5 => ?_)
        refine q_if_eq C 56 dX2_readHead_44 (by decide) ?_ ?_
        · refine q_iconst C dX2_readHead_56 rfl (by decide) (fun v10 => ?_)
          exact q_zretE C hr hlo dX2_readHead_57
        · refine q_aload_n C dX2_readHead_47 rfl (lv_at hl 0 rfl) ?_
          refine q_iconst C dX2_readHead_48 rfl (by decide) (fun v11 => ?_)
          refine q_iconst C dX2_readHead_49 rfl (by decide) (fun v12 => ?_)
          refine q_c2i C (fun r h => cr_V (As := [.int v11, .int v12]) (rest := []) C (m_X2_passNumber l G F k0 v11 v12 σ5 r h) cb_X2_passNumber hk0 (by decide) rfl (cf_2 hk0 _) rfl kl_X2_58 ⟨Nat.le_of_ble_eq_true rfl, Nat.le_of_ble_eq_true rfl⟩ ⟨Nat.zero_le _, Nat.zero_le _⟩ hl.1 rfl (Nat.le_of_ble_eq_true rfl) dX2_readHead_50 rfl) (fun v13 σ6 => ?_)
          refine q_if_ne C 58 dX2_readHead_53 (by decide) ?_ ?_
          · refine q_aload_n C dX2_readHead_58 rfl (lv_at hl 1 rfl) ?_
            refine q_aload_n C dX2_readHead_59 rfl (lv_at hl 0 rfl) ?_
            refine g_2_9 C hk0 kf_X2_62 dX2_readHead_60 (fun v14 => ?_)
            refine p_4_1 C hk1 kf_X2_69 dX2_readHead_63 (q_sg (fun σ7 => ?_))
            refine q_aload_n C dX2_readHead_66 rfl (lv_at hl 0 rfl) ?_
            refine q_ldcs C 3 (tx := "odds") (List.mem_of_getElem? (i := 3) rfl) dX2_readHead_67 ?_
            refine q_c2i C (fun r h => cr_V (As := [.ref (gak G 3)]) (rest := []) C (m_X2_passWord l G F k0 3 σ7 r h) cb_X2_passWord hk0 (by decide) rfl (cf_2 hk0 _) rfl kl_X2_52 ⟨Nat.le_of_ble_eq_true rfl, Nat.le_of_ble_eq_true rfl⟩ ⟨Nat.zero_le _, Nat.zero_le _⟩ hl.1 rfl (Nat.le_of_ble_eq_true rfl) dX2_readHead_69 rfl) (fun v15 σ8 => ?_)
            refine q_if_eq C 85 dX2_readHead_72 (by decide) ?_ ?_
            · refine q_iconst C dX2_readHead_85 rfl (by decide) (fun v16 => ?_)
              exact q_zretE C hr hlo dX2_readHead_86
            · refine q_aload_n C dX2_readHead_75 rfl (lv_at hl 0 rfl) ?_
              refine q_iconst C dX2_readHead_76 rfl (by decide) (fun v17 => ?_)
              refine q_bipush C dX2_readHead_77 rfl (by decide) (fun v18 => ?_)
              refine q_c2i C (fun r h => cr_V (As := [.int v17, .int v18]) (rest := []) C (m_X2_passNumber l G F k0 v17 v18 σ8 r h) cb_X2_passNumber hk0 (by decide) rfl (cf_2 hk0 _) rfl kl_X2_58 ⟨Nat.le_of_ble_eq_true rfl, Nat.le_of_ble_eq_true rfl⟩ ⟨Nat.zero_le _, Nat.zero_le _⟩ hl.1 rfl (Nat.le_of_ble_eq_true rfl) dX2_readHead_79 rfl) (fun v19 σ9 => ?_)
              refine q_if_ne C 87 dX2_readHead_82 (by decide) ?_ ?_
              · refine q_aload_n C dX2_readHead_87 rfl (lv_at hl 1 rfl) ?_
                refine q_aload_n C dX2_readHead_88 rfl (lv_at hl 0 rfl) ?_
                refine g_2_9 C hk0 kf_X2_62 dX2_readHead_89 (fun v20 => ?_)
                refine p_4_2 C hk1 kf_X2_74 dX2_readHead_92 (q_sg (fun σ10 => ?_))
                refine q_aload_n C dX2_readHead_95 rfl (lv_at hl 0 rfl) ?_
                refine q_c2i C (fun r h => cr_V (As := []) (rest := []) C (m_X2_passSign l G F k0 σ10 r h) cb_X2_passSign hk0 (by decide) rfl (cf_2 hk0 _) rfl kl_X2_76 ⟨Nat.le_of_ble_eq_true rfl, Nat.le_of_ble_eq_true rfl⟩ ⟨Nat.zero_le _, Nat.zero_le _⟩ hl.1 rfl (Nat.le_of_ble_eq_true rfl) dX2_readHead_96 rfl) (fun v21 σ11 => ?_)
                exact q_zretE C hr hlo dX2_readHead_99
              · refine q_iconst C dX2_readHead_85 rfl (by decide) (fun v22 => ?_)
                exact q_zretE C hr hlo dX2_readHead_86
          · refine q_iconst C dX2_readHead_56 rfl (by decide) (fun v23 => ?_)
            exact q_zretE C hr hlo dX2_readHead_57
      · refine q_iconst C dX2_readHead_28 rfl (by decide) (fun v24 => ?_)
        exact q_zretE C hr hlo dX2_readHead_29
def f_X2_wordOf (F : Nat) (a1 : Int) (σ : St) : Option (Nat) :=
  
  if a1 = 0 then (
    some 4)
  else
  if a1 = 1 then (
    some 5)
  else
  if a1 = 2 then (
    some 6)
  else
  if a1 = 3 then (
    some 7)
  else
  if a1 = 4 then (
    some 8)
  else
  if a1 = 5 then (
    some 9)
  else
  if a1 = 6 then (
    some 10)
  else
  if a1 = 7 then (
    some 11)
  else
  (
    some 12)
theorem sb_X2_wordOf : SB yX2_wordOf cX2_wordOf 1 (some (.object "java/lang/String")) 1 := ⟨ks_X2_wordOf, kn_X2, kc_X2_wordOf, by decide +kernel, by decide +kernel, by decide +kernel⟩
set_option maxRecDepth 20000 in
set_option maxHeartbeats 4000000 in
theorem m_X2_wordOf (l : Launch) (G : GG) (F : Nat) (a1 : Int32) (σ : St) : ∀ r, f_X2_wordOf F a1.toInt σ = some r → MC G l yX2_wordOf cX2_wordOf 1 (some (.object "java/lang/String")) { frames := 0, cells := 0, slots := 0, locals := 0 } [.int a1] σ (vS G r) σ := by
  refine MC_of (own := RX2) (vS G) (fun _ => σ) (by decide +kernel) rfl (Nat.le_of_ble_eq_true rfl) ?_
  intro p e s m args below meth c C hr hlo ls hl
  have hl : lv_has ls 1 [(0, .int a1)] := hl
  unfold f_X2_wordOf
  refine q_iload_n C dX2_wordOf_0 rfl (lv_at hl 0 rfl) ?_
  refine q_ite (fun e0 => ?_) (fun e0 => ?_) _
  · refine q_tin C 48 e0 dX2_wordOf_1 (by decide) (by decide) rfl (by decide) ?_
    refine q_ldcs C 4 (tx := "set") (List.mem_of_getElem? (i := 4) rfl) dX2_wordOf_48 ?_
    exact q_sret C (by decide : 4 < 13) hr hlo dX2_wordOf_50
  refine q_ite (fun e1 => ?_) (fun e1 => ?_) _
  · refine q_tin C 51 e1 dX2_wordOf_1 (by decide) (by decide) rfl (by decide) ?_
    refine q_ldcs C 5 (tx := "add") (List.mem_of_getElem? (i := 5) rfl) dX2_wordOf_51 ?_
    exact q_sret C (by decide : 5 < 13) hr hlo dX2_wordOf_53
  refine q_ite (fun e2 => ?_) (fun e2 => ?_) _
  · refine q_tin C 54 e2 dX2_wordOf_1 (by decide) (by decide) rfl (by decide) ?_
    refine q_ldcs C 6 (tx := "swap") (List.mem_of_getElem? (i := 6) rfl) dX2_wordOf_54 ?_
    exact q_sret C (by decide : 6 < 13) hr hlo dX2_wordOf_56
  refine q_ite (fun e3 => ?_) (fun e3 => ?_) _
  · refine q_tin C 57 e3 dX2_wordOf_1 (by decide) (by decide) rfl (by decide) ?_
    refine q_ldcs C 7 (tx := "fill") (List.mem_of_getElem? (i := 7) rfl) dX2_wordOf_57 ?_
    exact q_sret C (by decide : 7 < 13) hr hlo dX2_wordOf_59
  refine q_ite (fun e4 => ?_) (fun e4 => ?_) _
  · refine q_tin C 60 e4 dX2_wordOf_1 (by decide) (by decide) rfl (by decide) ?_
    refine q_ldcs C 8 (tx := "full") (List.mem_of_getElem? (i := 8) rfl) dX2_wordOf_60 ?_
    exact q_sret C (by decide : 8 < 13) hr hlo dX2_wordOf_62
  refine q_ite (fun e5 => ?_) (fun e5 => ?_) _
  · refine q_tin C 63 e5 dX2_wordOf_1 (by decide) (by decide) rfl (by decide) ?_
    refine q_ldcs C 9 (tx := "part") (List.mem_of_getElem? (i := 9) rfl) dX2_wordOf_63 ?_
    exact q_sret C (by decide : 9 < 13) hr hlo dX2_wordOf_65
  refine q_ite (fun e6 => ?_) (fun e6 => ?_) _
  · refine q_tin C 66 e6 dX2_wordOf_1 (by decide) (by decide) rfl (by decide) ?_
    refine q_ldcs C 10 (tx := "scan") (List.mem_of_getElem? (i := 10) rfl) dX2_wordOf_66 ?_
    exact q_sret C (by decide : 10 < 13) hr hlo dX2_wordOf_68
  refine q_ite (fun e7 => ?_) (fun e7 => ?_) _
  · refine q_tin C 69 e7 dX2_wordOf_1 (by decide) (by decide) rfl (by decide) ?_
    refine q_ldcs C 11 (tx := "finish") (List.mem_of_getElem? (i := 11) rfl) dX2_wordOf_69 ?_
    exact q_sret C (by decide : 11 < 13) hr hlo dX2_wordOf_71
  refine q_tout C 72 dX2_wordOf_1 (by omega) (by decide) ?_
  refine q_ldcs C 12 (tx := "tear") (List.mem_of_getElem? (i := 12) rfl) dX2_wordOf_72 ?_
  exact q_sret C (by decide : 12 < 13) hr hlo dX2_wordOf_74
def f_X2_kindOfWord_L2 (F : Nat) (k0 : Nat)  (σ : St) : Nat → Int → Option (Int)
  | 0, _ => none
  | n + 1, x2 =>
    z_gt 9 fun v3 =>
    if v3 ≤ x2 then (
      z_gt (-1) fun v4 =>
      some v4)
    else (
      z_c1 (f_X2_wordOf F x2 σ) fun t5 =>
      z_c1 (f_X2_isWord F k0 t5 σ) fun v6 =>
      if v6 = 0 then (
        z_ck (x2 + 1) fun v7 =>
        f_X2_kindOfWord_L2 F k0 σ n v7)
      else (
        some x2))

def f_X2_kindOfWord (F : Nat) (k0 : Nat) (σ : St) : Option (Int) :=
  z_ob 2 k0 <| 
  z_gt 0 fun v1 =>
  f_X2_kindOfWord_L2 F k0 σ F v1
theorem cb_X2_kindOfWord : CB yX2_kindOfWord cX2_kindOfWord 2 (some .int) 0 := ⟨ki_X2_kindOfWord, kq_X2_kindOfWord, kn_X2, kc_X2_kindOfWord, by decide +kernel, by decide +kernel, by decide +kernel⟩
set_option maxRecDepth 20000 in
set_option maxHeartbeats 4000000 in
theorem m_X2_kindOfWord (l : Launch) (G : GG) (F : Nat) (k0 : Nat) (σ : St) : ∀ r, f_X2_kindOfWord F k0 σ = some r → MC G l yX2_kindOfWord cX2_kindOfWord 2 (some .int) { frames := 5, cells := 0, slots := 0, locals := 107 } [.ref (gad G k0)] σ (vI r) σ := by
  refine MC_of (own := RX2) (vI) (fun _ => σ) (by decide +kernel) rfl (Nat.le_of_ble_eq_true rfl) ?_
  intro p e s m args below meth c C hr hlo ls hl
  have hl : lv_has ls 2 [(0, .ref (gad G k0))] := hl
  unfold f_X2_kindOfWord
  refine q_ob (fun hk0 => ?_)
  have B2 : ∀ (n : Nat) (x2 : Int32) (ls : Array Slot), lv_has ls 2 [(0, .ref (gad G k0)), (1, .int x2)] → Sim G (AG G) 0 0 p l e { frames := 5, cells := 0, slots := 0, locals := 107 } s m args below meth c (fun r : Int => MQ below (QC G (vI r) (σ)) args s 0 0 (AG G)) σ (f_X2_kindOfWord_L2 F k0  σ n x2.toInt) (F0 m 2 ls []) := by
    intro n
    induction n with
    | zero =>
      intro x2 ls hl
      exact sim_none
    | succ n ih =>
      intro x2 ls hl
      rw [f_X2_kindOfWord_L2]
      refine q_iload_n C dX2_kindOfWord_2 rfl (lv_at hl 1 rfl) ?_
      refine q_bipush C dX2_kindOfWord_3 rfl (by decide) (fun v3 => ?_)
      refine q_icmp_ge C 27 dX2_kindOfWord_5 (by decide) ?_ ?_
      · refine q_iconst C dX2_kindOfWord_27 rfl (by decide) (fun v4 => ?_)
        exact q_iret C hr hlo dX2_kindOfWord_28
      · refine q_aload_n C dX2_kindOfWord_8 rfl (lv_at hl 0 rfl) ?_
        refine q_iload_n C dX2_kindOfWord_9 rfl (lv_at hl 1 rfl) ?_
        refine q_cs C (fun r h => cr_S (As := [.int x2]) (rest := [.ref (gad G k0)]) C (m_X2_wordOf l G F x2 σ r h) sb_X2_wordOf kl_X2_117 ⟨Nat.le_of_ble_eq_true rfl, Nat.le_of_ble_eq_true rfl⟩ ⟨Nat.zero_le _, Nat.zero_le _⟩ hl.1 rfl (Nat.le_of_ble_eq_true rfl) dX2_kindOfWord_10 rfl) (fun t5 ht5 => ?_)
        refine q_c1i C (fun r h => cr_V (As := [.ref (gak G t5)]) (rest := []) C (m_X2_isWord l G F k0 t5 σ r h) cb_X2_isWord hk0 (by decide) rfl (cf_2 hk0 _) rfl kl_X2_114 ⟨Nat.le_of_ble_eq_true rfl, Nat.le_of_ble_eq_true rfl⟩ ⟨Nat.zero_le _, Nat.zero_le _⟩ hl.1 rfl (Nat.le_of_ble_eq_true rfl) dX2_kindOfWord_13 rfl) (fun v6 => ?_)
        refine q_if_eq C 21 dX2_kindOfWord_16 (by decide) ?_ ?_
        · refine q_iinc (k := 1) C (fun v7 => [(1, .int v7), (0, .ref (gad G k0))]) dX2_kindOfWord_21 hl rfl (by decide) (by decide) (fun _ => rfl) (fun v7 ls hl => ?_)
          refine q_goto C 2 dX2_kindOfWord_24 (by decide) ?_
          exact ih v7 ls (lv_sub hl [1, 0] rfl)
        · refine q_iload_n C dX2_kindOfWord_19 rfl (lv_at hl 1 rfl) ?_
          exact q_iret C hr hlo dX2_kindOfWord_20
  refine q_iconst C dX2_kindOfWord_0 rfl (by decide) (fun v1 => ?_)
  refine q_istore_n C [(1, .int v1), (0, .ref (gad G k0))] dX2_kindOfWord_1 rfl hl (by decide) rfl (fun ls hl => ?_)
  exact B2 F v1 ls (lv_sub hl [1, 0] rfl)
def f_X6_fits_J75 (F : Nat) (a1 : Int) (a2 : Int) (a3 : Int) (a4 : Int) (a5 : Int)  (σ : St)   : Option (Int) :=
  z_gt 1 fun v2 =>
  if ¬ a3 = v2 then (
    if a4 < 0 then (
      z_gt 0 fun v3 =>
      z_bo v3 <| some v3)
    else (
      z_gt 255 fun v4 =>
      if v4 < a4 then (
        z_gt 0 fun v5 =>
        z_bo v5 <| some v5)
      else (
        z_gt 1 fun v6 =>
        z_bo v6 <| some v6)))
  else (
    z_gt 3 fun v7 =>
    if ¬ a2 = v7 then (
      if a4 < 0 then (
        z_gt 0 fun v8 =>
        z_bo v8 <| some v8)
      else (
        z_gt 255 fun v9 =>
        if v9 < a4 then (
          z_gt 0 fun v10 =>
          z_bo v10 <| some v10)
        else (
          z_gt 1 fun v11 =>
          z_bo v11 <| some v11)))
    else (
      if a4 < a5 then (
        z_gt 0 fun v12 =>
        z_bo v12 <| some v12)
      else (
        if a1 ≤ a4 then (
          z_gt 0 fun v13 =>
          z_bo v13 <| some v13)
        else (
          z_gt 1 fun v14 =>
          z_bo v14 <| some v14))))

def f_X6_fits (F : Nat) (a1 : Int) (a2 : Int) (a3 : Int) (a4 : Int) (a5 : Int) (σ : St) : Option (Int) :=
  
  if ¬ a3 = 0 then (
    z_gt 1 fun v1 =>
    if ¬ a3 = v1 then (
      f_X6_fits_J75 F a1 a2 a3 a4 a5 σ)
    else (
      z_gt 2 fun v15 =>
      if ¬ a2 = v15 then (
        f_X6_fits_J75 F a1 a2 a3 a4 a5 σ)
      else (
        if a4 < 0 then (
          z_gt 0 fun v16 =>
          z_bo v16 <| some v16)
        else (
          if a1 ≤ a4 then (
            z_gt 0 fun v17 =>
            z_bo v17 <| some v17)
          else (
            if a4 = a5 then (
              z_gt 0 fun v18 =>
              z_bo v18 <| some v18)
            else (
              z_gt 1 fun v19 =>
              z_bo v19 <| some v19))))))
  else (
    z_gt 6 fun v20 =>
    if ¬ a2 = v20 then (
      if a4 < 0 then (
        z_gt 0 fun v21 =>
        z_bo v21 <| some v21)
      else (
        if a1 ≤ a4 then (
          z_gt 0 fun v22 =>
          z_bo v22 <| some v22)
        else (
          z_gt 1 fun v23 =>
          z_bo v23 <| some v23)))
    else (
      z_gt 1 fun v24 =>
      if a4 < v24 then (
        z_gt 0 fun v25 =>
        z_bo v25 <| some v25)
      else (
        z_gt 32 fun v26 =>
        if v26 < a4 then (
          z_gt 0 fun v27 =>
          z_bo v27 <| some v27)
        else (
          z_gt 1 fun v28 =>
          z_bo v28 <| some v28))))
theorem sb_X6_fits : SB yX6_fits cX6_fits 5 (some .boolean) 5 := ⟨ks_X6_fits, kn_X6, kc_X6_fits, by decide +kernel, by decide +kernel, by decide +kernel⟩
set_option maxRecDepth 20000 in
set_option maxHeartbeats 4000000 in
theorem m_X6_fits (l : Launch) (G : GG) (F : Nat) (a1 : Int32) (a2 : Int32) (a3 : Int32) (a4 : Int32) (a5 : Int32) (σ : St) : ∀ r, f_X6_fits F a1.toInt a2.toInt a3.toInt a4.toInt a5.toInt σ = some r → MC G l yX6_fits cX6_fits 5 (some .boolean) { frames := 0, cells := 0, slots := 0, locals := 0 } [.int a1, .int a2, .int a3, .int a4, .int a5] σ (vI r) σ := by
  refine MC_of (own := RX6) (vI) (fun _ => σ) (by decide +kernel) rfl (Nat.le_of_ble_eq_true rfl) ?_
  intro p e s m args below meth c C hr hlo ls hl
  have hl : lv_has ls 5 [(0, .int a1), (1, .int a2), (2, .int a3), (3, .int a4), (4, .int a5)] := hl
  unfold f_X6_fits
  have B75 : ∀   (ls : Array Slot), lv_has ls 5 [(0, .int a1), (1, .int a2), (2, .int a3), (3, .int a4), (4, .int a5)] → Sim G (AG G) 0 0 p l e { frames := 0, cells := 0, slots := 0, locals := 0 } s m args below meth c (fun r : Int => MQ below (QC G (vI r) (σ)) args s 0 0 (AG G)) σ (f_X6_fits_J75 F a1.toInt a2.toInt a3.toInt a4.toInt a5.toInt  σ  ) (F0 m 75 ls []) := by
    intro  ls hl
    unfold f_X6_fits_J75
    refine q_iload_n C dX6_fits_75 rfl (lv_at hl 2 rfl) ?_
    refine q_iconst C dX6_fits_76 rfl (by decide) (fun v2 => ?_)
    refine q_icmp_ne C 102 dX6_fits_77 (by decide) ?_ ?_
    · refine q_iload_n C dX6_fits_102 rfl (lv_at hl 3 rfl) ?_
      refine q_if_lt C 117 dX6_fits_103 (by decide) ?_ ?_
      · refine q_iconst C dX6_fits_117 rfl (by decide) (fun v3 => ?_)
        exact q_zret C hr hlo dX6_fits_118
      · refine q_iload_n C dX6_fits_106 rfl (lv_at hl 3 rfl) ?_
        refine q_sipush C dX6_fits_107 rfl (by decide) (fun v4 => ?_)
        refine q_icmp_gt C 117 dX6_fits_110 (by decide) ?_ ?_
        · refine q_iconst C dX6_fits_117 rfl (by decide) (fun v5 => ?_)
          exact q_zret C hr hlo dX6_fits_118
        · refine q_iconst C dX6_fits_113 rfl (by decide) (fun v6 => ?_)
          refine q_goto C 118 dX6_fits_114 (by decide) ?_
          exact q_zret C hr hlo dX6_fits_118
    · refine q_iload_n C dX6_fits_80 rfl (lv_at hl 1 rfl) ?_
      refine q_iconst C dX6_fits_81 rfl (by decide) (fun v7 => ?_)
      refine q_icmp_ne C 102 dX6_fits_82 (by decide) ?_ ?_
      · refine q_iload_n C dX6_fits_102 rfl (lv_at hl 3 rfl) ?_
        refine q_if_lt C 117 dX6_fits_103 (by decide) ?_ ?_
        · refine q_iconst C dX6_fits_117 rfl (by decide) (fun v8 => ?_)
          exact q_zret C hr hlo dX6_fits_118
        · refine q_iload_n C dX6_fits_106 rfl (lv_at hl 3 rfl) ?_
          refine q_sipush C dX6_fits_107 rfl (by decide) (fun v9 => ?_)
          refine q_icmp_gt C 117 dX6_fits_110 (by decide) ?_ ?_
          · refine q_iconst C dX6_fits_117 rfl (by decide) (fun v10 => ?_)
            exact q_zret C hr hlo dX6_fits_118
          · refine q_iconst C dX6_fits_113 rfl (by decide) (fun v11 => ?_)
            refine q_goto C 118 dX6_fits_114 (by decide) ?_
            exact q_zret C hr hlo dX6_fits_118
      · refine q_iload_n C dX6_fits_85 rfl (lv_at hl 3 rfl) ?_
        refine q_iload C dX6_fits_86 (lv_at hl 4 rfl) ?_
        refine q_icmp_lt C 100 dX6_fits_88 (by decide) ?_ ?_
        · refine q_iconst C dX6_fits_100 rfl (by decide) (fun v12 => ?_)
          exact q_zret C hr hlo dX6_fits_101
        · refine q_iload_n C dX6_fits_91 rfl (lv_at hl 3 rfl) ?_
          refine q_iload_n C dX6_fits_92 rfl (lv_at hl 0 rfl) ?_
          refine q_icmp_ge C 100 dX6_fits_93 (by decide) ?_ ?_
          · refine q_iconst C dX6_fits_100 rfl (by decide) (fun v13 => ?_)
            exact q_zret C hr hlo dX6_fits_101
          · refine q_iconst C dX6_fits_96 rfl (by decide) (fun v14 => ?_)
            refine q_goto C 101 dX6_fits_97 (by decide) ?_
            exact q_zret C hr hlo dX6_fits_101
  refine q_iload_n C dX6_fits_0 rfl (lv_at hl 2 rfl) ?_
  refine q_if_ne C 44 dX6_fits_1 (by decide) ?_ ?_
  · refine q_iload_n C dX6_fits_44 rfl (lv_at hl 2 rfl) ?_
    refine q_iconst C dX6_fits_45 rfl (by decide) (fun v1 => ?_)
    refine q_icmp_ne C 75 dX6_fits_46 (by decide) ?_ ?_
    · exact B75  ls (lv_sub hl [0, 1, 2, 3, 4] rfl)
    · refine q_iload_n C dX6_fits_49 rfl (lv_at hl 1 rfl) ?_
      refine q_iconst C dX6_fits_50 rfl (by decide) (fun v15 => ?_)
      refine q_icmp_ne C 75 dX6_fits_51 (by decide) ?_ ?_
      · exact B75  ls (lv_sub hl [0, 1, 2, 3, 4] rfl)
      · refine q_iload_n C dX6_fits_54 rfl (lv_at hl 3 rfl) ?_
        refine q_if_lt C 73 dX6_fits_55 (by decide) ?_ ?_
        · refine q_iconst C dX6_fits_73 rfl (by decide) (fun v16 => ?_)
          exact q_zret C hr hlo dX6_fits_74
        · refine q_iload_n C dX6_fits_58 rfl (lv_at hl 3 rfl) ?_
          refine q_iload_n C dX6_fits_59 rfl (lv_at hl 0 rfl) ?_
          refine q_icmp_ge C 73 dX6_fits_60 (by decide) ?_ ?_
          · refine q_iconst C dX6_fits_73 rfl (by decide) (fun v17 => ?_)
            exact q_zret C hr hlo dX6_fits_74
          · refine q_iload_n C dX6_fits_63 rfl (lv_at hl 3 rfl) ?_
            refine q_iload C dX6_fits_64 (lv_at hl 4 rfl) ?_
            refine q_icmp_eq C 73 dX6_fits_66 (by decide) ?_ ?_
            · refine q_iconst C dX6_fits_73 rfl (by decide) (fun v18 => ?_)
              exact q_zret C hr hlo dX6_fits_74
            · refine q_iconst C dX6_fits_69 rfl (by decide) (fun v19 => ?_)
              refine q_goto C 74 dX6_fits_70 (by decide) ?_
              exact q_zret C hr hlo dX6_fits_74
  · refine q_iload_n C dX6_fits_4 rfl (lv_at hl 1 rfl) ?_
    refine q_bipush C dX6_fits_5 rfl (by decide) (fun v20 => ?_)
    refine q_icmp_ne C 29 dX6_fits_7 (by decide) ?_ ?_
    · refine q_iload_n C dX6_fits_29 rfl (lv_at hl 3 rfl) ?_
      refine q_if_lt C 42 dX6_fits_30 (by decide) ?_ ?_
      · refine q_iconst C dX6_fits_42 rfl (by decide) (fun v21 => ?_)
        exact q_zret C hr hlo dX6_fits_43
      · refine q_iload_n C dX6_fits_33 rfl (lv_at hl 3 rfl) ?_
        refine q_iload_n C dX6_fits_34 rfl (lv_at hl 0 rfl) ?_
        refine q_icmp_ge C 42 dX6_fits_35 (by decide) ?_ ?_
        · refine q_iconst C dX6_fits_42 rfl (by decide) (fun v22 => ?_)
          exact q_zret C hr hlo dX6_fits_43
        · refine q_iconst C dX6_fits_38 rfl (by decide) (fun v23 => ?_)
          refine q_goto C 43 dX6_fits_39 (by decide) ?_
          exact q_zret C hr hlo dX6_fits_43
    · refine q_iload_n C dX6_fits_10 rfl (lv_at hl 3 rfl) ?_
      refine q_iconst C dX6_fits_11 rfl (by decide) (fun v24 => ?_)
      refine q_icmp_lt C 25 dX6_fits_12 (by decide) ?_ ?_
      · refine q_iconst C dX6_fits_25 rfl (by decide) (fun v25 => ?_)
        refine q_goto C 43 dX6_fits_26 (by decide) ?_
        exact q_zret C hr hlo dX6_fits_43
      · refine q_iload_n C dX6_fits_15 rfl (lv_at hl 3 rfl) ?_
        refine q_bipush C dX6_fits_16 rfl (by decide) (fun v26 => ?_)
        refine q_icmp_gt C 25 dX6_fits_18 (by decide) ?_ ?_
        · refine q_iconst C dX6_fits_25 rfl (by decide) (fun v27 => ?_)
          refine q_goto C 43 dX6_fits_26 (by decide) ?_
          exact q_zret C hr hlo dX6_fits_43
        · refine q_iconst C dX6_fits_21 rfl (by decide) (fun v28 => ?_)
          refine q_goto C 43 dX6_fits_22 (by decide) ?_
          exact q_zret C hr hlo dX6_fits_43
def f_X4_size (F : Nat) (k0 : Nat) (σ : St) : Option (Int) :=
  z_ob 4 k0 <| 
  z_gt (σ k0 3) fun v1 =>
  z_gt (σ k0 4) fun v2 =>
  z_ck (v1 + v2) fun v3 =>
  some v3
theorem cb_X4_size : CB yX4_size cX4_size 1 (some .int) 0 := ⟨ki_X4_size, kq_X4_size, kn_X4, kc_X4_size, by decide +kernel, by decide +kernel, by decide +kernel⟩
set_option maxRecDepth 20000 in
set_option maxHeartbeats 4000000 in
theorem m_X4_size (l : Launch) (G : GG) (F : Nat) (k0 : Nat) (σ : St) : ∀ r, f_X4_size F k0 σ = some r → MC G l yX4_size cX4_size 1 (some .int) { frames := 0, cells := 0, slots := 0, locals := 0 } [.ref (gad G k0)] σ (vI r) σ := by
  refine MC_of (own := RX4) (vI) (fun _ => σ) (by decide +kernel) rfl (Nat.le_of_ble_eq_true rfl) ?_
  intro p e s m args below meth c C hr hlo ls hl
  have hl : lv_has ls 1 [(0, .ref (gad G k0))] := hl
  unfold f_X4_size
  refine q_ob (fun hk0 => ?_)
  refine q_aload_n C dX4_size_0 rfl (lv_at hl 0 rfl) ?_
  refine g_4_3 C hk0 kf_X4_28 dX4_size_1 (fun v1 => ?_)
  refine q_aload_n C dX4_size_4 rfl (lv_at hl 0 rfl) ?_
  refine g_4_4 C hk0 kf_X4_31 dX4_size_5 (fun v2 => ?_)
  refine q_iadd C dX4_size_8 (fun v3 => ?_)
  exact q_iret C hr hlo dX4_size_9
def f_X4_putEvent (F : Nat) (k0 : Nat) (a1 : Int) (a2 : Int) (a3 : Int) (a4 : Int) (σ : St) : Option (St) :=
  z_ob 4 k0 <| 
  z_c1 (f_X4_size F k0 σ) fun v1 =>
  z_gt 60 fun v2 =>
  if v2 ≤ v1 then (
    some σ)
  else (
    if a1 < 0 then (
      some σ)
    else (
      z_gt 9 fun v3 =>
      if v3 ≤ a1 then (
        some σ)
      else (
        z_ix v1 60 <| z_sg (z_up σ (k0 + 1) v1 a1) fun σ1 =>
        z_gt 3 fun v4 =>
        z_ck (v1 * v4) fun v5 =>
        z_ix v5 180 <| z_sg (z_up σ1 (k0 + 2) v5 a2) fun σ2 =>
        z_gt 3 fun v6 =>
        z_ck (v1 * v6) fun v7 =>
        z_gt 1 fun v8 =>
        z_ck (v7 + v8) fun v9 =>
        z_ix v9 180 <| z_sg (z_up σ2 (k0 + 2) v9 a3) fun σ3 =>
        z_gt 3 fun v10 =>
        z_ck (v1 * v10) fun v11 =>
        z_gt 2 fun v12 =>
        z_ck (v11 + v12) fun v13 =>
        z_ix v13 180 <| z_sg (z_up σ3 (k0 + 2) v13 a4) fun σ4 =>
        some σ4)))
theorem cb_X4_putEvent : CB yX4_putEvent cX4_putEvent 6 none 4 := ⟨ki_X4_putEvent, kq_X4_putEvent, kn_X4, kc_X4_putEvent, by decide +kernel, by decide +kernel, by decide +kernel⟩
set_option maxRecDepth 20000 in
set_option maxHeartbeats 4000000 in
theorem m_X4_putEvent (l : Launch) (G : GG) (F : Nat) (k0 : Nat) (a1 : Int32) (a2 : Int32) (a3 : Int32) (a4 : Int32) (σ : St) : ∀ r, f_X4_putEvent F k0 a1.toInt a2.toInt a3.toInt a4.toInt σ = some r → MC G l yX4_putEvent cX4_putEvent 6 none { frames := 1, cells := 0, slots := 0, locals := 20 } [.ref (gad G k0), .int a1, .int a2, .int a3, .int a4] σ vV r := by
  refine MC_of (own := RX4) (fun _ => vV) (fun r => r) (by decide +kernel) rfl (Nat.le_of_ble_eq_true rfl) ?_
  intro p e s m args below meth c C hr hlo ls hl
  have hl : lv_has ls 6 [(0, .ref (gad G k0)), (1, .int a1), (2, .int a2), (3, .int a3), (4, .int a4)] := hl
  unfold f_X4_putEvent
  refine q_ob (fun hk0 => ?_)
  refine q_aload_n C dX4_putEvent_0 rfl (lv_at hl 0 rfl) ?_
  refine q_c1i C (fun r h => cr_V (As := []) (rest := []) C (m_X4_size l G F k0 σ r h) cb_X4_size hk0 (by decide) rfl (cf_4 hk0 _) rfl kl_X4_44 ⟨Nat.le_of_ble_eq_true rfl, Nat.le_of_ble_eq_true rfl⟩ ⟨Nat.zero_le _, Nat.zero_le _⟩ hl.1 rfl (Nat.le_of_ble_eq_true rfl) dX4_putEvent_1 rfl) (fun v1 => ?_)
  refine q_istore C [(5, .int v1), (0, .ref (gad G k0)), (1, .int a1), (2, .int a2), (3, .int a3), (4, .int a4)] dX4_putEvent_4 hl (by decide) rfl (fun ls hl => ?_)
  refine q_iload C dX4_putEvent_6 (lv_at hl 0 rfl) ?_
  refine q_bipush C dX4_putEvent_8 rfl (by decide) (fun v2 => ?_)
  refine q_icmp_ge C 66 dX4_putEvent_10 (by decide) ?_ ?_
  · exact q_vretE C hr hlo dX4_putEvent_66
  · refine q_iload_n C dX4_putEvent_13 rfl (lv_at hl 2 rfl) ?_
    refine q_if_lt C 66 dX4_putEvent_14 (by decide) ?_ ?_
    · exact q_vretE C hr hlo dX4_putEvent_66
    · refine q_iload_n C dX4_putEvent_17 rfl (lv_at hl 2 rfl) ?_
      refine q_bipush C dX4_putEvent_18 rfl (by decide) (fun v3 => ?_)
      refine q_icmp_ge C 66 dX4_putEvent_20 (by decide) ?_ ?_
      · exact q_vretE C hr hlo dX4_putEvent_66
      · refine q_aload_n C dX4_putEvent_23 rfl (lv_at hl 1 rfl) ?_
        refine g_4_6 C hk0 kf_X4_9 dX4_putEvent_24 ?_
        refine q_iload C dX4_putEvent_27 (lv_at hl 0 rfl) ?_
        refine q_iload_n C dX4_putEvent_29 rfl (lv_at hl 2 rfl) ?_
        refine a_ist C (yk_4_6 hk0) (yl_4_6 hk0) dX4_putEvent_30 (q_sg (fun σ1 => ?_))
        refine q_aload_n C dX4_putEvent_31 rfl (lv_at hl 1 rfl) ?_
        refine g_4_7 C hk0 kf_X4_15 dX4_putEvent_32 ?_
        refine q_iload C dX4_putEvent_35 (lv_at hl 0 rfl) ?_
        refine q_iconst C dX4_putEvent_37 rfl (by decide) (fun v4 => ?_)
        refine q_imul C dX4_putEvent_38 (fun v5 => ?_)
        refine q_iload_n C dX4_putEvent_39 rfl (lv_at hl 3 rfl) ?_
        refine a_ist C (yk_4_7 hk0) (yl_4_7 hk0) dX4_putEvent_40 (q_sg (fun σ2 => ?_))
        refine q_aload_n C dX4_putEvent_41 rfl (lv_at hl 1 rfl) ?_
        refine g_4_7 C hk0 kf_X4_15 dX4_putEvent_42 ?_
        refine q_iload C dX4_putEvent_45 (lv_at hl 0 rfl) ?_
        refine q_iconst C dX4_putEvent_47 rfl (by decide) (fun v6 => ?_)
        refine q_imul C dX4_putEvent_48 (fun v7 => ?_)
        refine q_iconst C dX4_putEvent_49 rfl (by decide) (fun v8 => ?_)
        refine q_iadd C dX4_putEvent_50 (fun v9 => ?_)
        refine q_iload_n C dX4_putEvent_51 rfl (lv_at hl 4 rfl) ?_
        refine a_ist C (yk_4_7 hk0) (yl_4_7 hk0) dX4_putEvent_52 (q_sg (fun σ3 => ?_))
        refine q_aload_n C dX4_putEvent_53 rfl (lv_at hl 1 rfl) ?_
        refine g_4_7 C hk0 kf_X4_15 dX4_putEvent_54 ?_
        refine q_iload C dX4_putEvent_57 (lv_at hl 0 rfl) ?_
        refine q_iconst C dX4_putEvent_59 rfl (by decide) (fun v10 => ?_)
        refine q_imul C dX4_putEvent_60 (fun v11 => ?_)
        refine q_iconst C dX4_putEvent_61 rfl (by decide) (fun v12 => ?_)
        refine q_iadd C dX4_putEvent_62 (fun v13 => ?_)
        refine q_iload C dX4_putEvent_63 (lv_at hl 5 rfl) ?_
        refine a_ist C (yk_4_7 hk0) (yl_4_7 hk0) dX4_putEvent_65 (q_sg (fun σ4 => ?_))
        exact q_vretE C hr hlo dX4_putEvent_66
def f_X2_readEvent_J121 (F : Nat) (k0 : Nat) (a1 : Nat)   (x10 : Int) (σ : St) : Option (Int × St) :=
  z_gt 0 fun v11 =>
  z_ix v11 3 <| z_gt (σ (k0 + 2) v11) fun v12 =>
  z_gt 1 fun v13 =>
  z_ix v13 3 <| z_gt (σ (k0 + 2) v13) fun v14 =>
  z_gt 2 fun v15 =>
  z_ix v15 3 <| z_gt (σ (k0 + 2) v15) fun v16 =>
  z_c1 (f_X4_putEvent F a1 x10 v12 v14 v16 σ) fun σ3 =>
  z_gt (σ3 a1 3) fun v17 =>
  z_gt 1 fun v18 =>
  z_ck (v17 + v18) fun v19 =>
  z_sg (z_up σ3 a1 3 v19) fun σ4 =>
  z_c2 (f_X2_passSign F k0 σ4) fun v20 σ5 =>
  z_bo v20 <| some (v20, σ5)

def f_X2_readEvent_L45 (F : Nat) (k0 : Nat) (a1 : Nat)   : Nat → Int → Int → St → Option (Int × St)
  | 0, _, _, _ => none
  | n + 1, x7, x8, σ =>
    z_ix x7 9 <| z_gt (z_nk x7) fun v9 =>
    if v9 ≤ x8 then (
      f_X2_readEvent_J121 F k0 a1 x7 σ)
    else (
      z_gt 3 fun v21 =>
      if v21 ≤ x8 then (
        f_X2_readEvent_J121 F k0 a1 x7 σ)
      else (
        z_gt (σ k0 5) fun v22 =>
        z_gt 2 fun v23 =>
        if v22 = v23 then (
          z_gt (σ a1 0) fun v24 =>
          z_gt (σ k0 8) fun v25 =>
          z_gt 0 fun v26 =>
          z_ix v26 3 <| z_gt (σ (k0 + 2) v26) fun v27 =>
          z_c1 (f_X6_fits F v24 x7 x8 v25 v27 σ) fun v28 =>
          if ¬ v28 = 0 then (
            z_gt (σ k0 8) fun v29 =>
            z_ix x8 3 <| z_sg (z_up σ (k0 + 2) x8 v29) fun σ6 =>
            z_c1 (f_X2_advance F k0 σ6) fun σ7 =>
            z_ck (x8 + 1) fun v30 =>
            f_X2_readEvent_L45 F k0 a1 n x7 v30 σ7)
          else (
            z_gt 2 fun v31 =>
            z_c2 (f_X2_fail F k0 v31 σ) fun v32 σ8 =>
            z_bo v32 <| some (v32, σ8)))
        else (
          z_gt 1 fun v33 =>
          z_c2 (f_X2_fail F k0 v33 σ) fun v34 σ9 =>
          z_bo v34 <| some (v34, σ9))))

def f_X2_readEvent (F : Nat) (k0 : Nat) (a1 : Nat) (σ : St) : Option (Int × St) :=
  z_ob 2 k0 <| z_ob 4 a1 <| 
  z_c1 (f_X2_kindOfWord F k0 σ) fun v1 =>
  z_gt (-1) fun v2 =>
  if ¬ v1 = v2 then (
    z_gt (σ a1 3) fun v3 =>
    z_gt 40 fun v4 =>
    if v3 < v4 then (
      z_c1 (f_X2_advance F k0 σ) fun σ1 =>
      z_gt 0 fun v5 =>
      z_c1 (f_J7_fill_53178 F (k0 + 2) v5 σ1) fun σ2 =>
      z_gt 0 fun v6 =>
      f_X2_readEvent_L45 F k0 a1 F v1 v6 σ2)
    else (
      z_gt 3 fun v35 =>
      z_c2 (f_X2_fail F k0 v35 σ) fun v36 σ10 =>
      z_bo v36 <| some (v36, σ10)))
  else (
    z_gt 1 fun v37 =>
    z_c2 (f_X2_fail F k0 v37 σ) fun v38 σ11 =>
    z_bo v38 <| some (v38, σ11))
theorem cb_X2_readEvent : CB yX2_readEvent cX2_readEvent 4 (some .boolean) 1 := ⟨ki_X2_readEvent, kq_X2_readEvent, kn_X2, kc_X2_readEvent, by decide +kernel, by decide +kernel, by decide +kernel⟩
set_option maxRecDepth 20000 in
set_option maxHeartbeats 4000000 in
theorem m_X2_readEvent (l : Launch) (G : GG) (F : Nat) (k0 : Nat) (a1 : Nat) (σ : St) : ∀ r, f_X2_readEvent F k0 a1 σ = some r → MC G l yX2_readEvent cX2_readEvent 4 (some .boolean) { frames := 6, cells := 0, slots := 0, locals := 128 } [.ref (gad G k0), .ref (gad G a1)] σ (vI r.1) r.2 := by
  refine MC_of (own := RX2) (fun r : Int × St => vI r.1) (fun r : Int × St => r.2) (by decide +kernel) rfl (Nat.le_of_ble_eq_true rfl) ?_
  intro p e s m args below meth c C hr hlo ls hl
  have hl : lv_has ls 4 [(0, .ref (gad G k0)), (1, .ref (gad G a1))] := hl
  unfold f_X2_readEvent
  refine q_ob (fun hk0 => ?_)
  refine q_ob (fun hk1 => ?_)
  have B121 : ∀  (x10 : Int32) (σ : St) (ls : Array Slot), lv_has ls 4 [(0, .ref (gad G k0)), (1, .ref (gad G a1)), (2, .int x10)] → Sim G (AG G) 0 0 p l e { frames := 6, cells := 0, slots := 0, locals := 128 } s m args below meth c (fun r : Int × St => MQ below (QC G (vI r.1) (r.2)) args s 0 0 (AG G)) σ (f_X2_readEvent_J121 F k0 a1    x10.toInt σ) (F0 m 121 ls []) := by
    intro x10 σ ls hl
    unfold f_X2_readEvent_J121
    refine q_aload_n C dX2_readEvent_121 rfl (lv_at hl 1 rfl) ?_
    refine q_iload_n C dX2_readEvent_122 rfl (lv_at hl 2 rfl) ?_
    refine q_aload_n C dX2_readEvent_123 rfl (lv_at hl 0 rfl) ?_
    refine g_2_4 C hk0 kf_X2_19 dX2_readEvent_124 ?_
    refine q_iconst C dX2_readEvent_127 rfl (by decide) (fun v11 => ?_)
    refine a_ild C (yk_2_4 hk0) (yl_2_4 hk0) dX2_readEvent_128 (fun v12 => ?_)
    refine q_aload_n C dX2_readEvent_129 rfl (lv_at hl 0 rfl) ?_
    refine g_2_4 C hk0 kf_X2_19 dX2_readEvent_130 ?_
    refine q_iconst C dX2_readEvent_133 rfl (by decide) (fun v13 => ?_)
    refine a_ild C (yk_2_4 hk0) (yl_2_4 hk0) dX2_readEvent_134 (fun v14 => ?_)
    refine q_aload_n C dX2_readEvent_135 rfl (lv_at hl 0 rfl) ?_
    refine g_2_4 C hk0 kf_X2_19 dX2_readEvent_136 ?_
    refine q_iconst C dX2_readEvent_139 rfl (by decide) (fun v15 => ?_)
    refine a_ild C (yk_2_4 hk0) (yl_2_4 hk0) dX2_readEvent_140 (fun v16 => ?_)
    refine q_cv C (fun r h => cr_V (As := [.int x10, .int v12, .int v14, .int v16]) (rest := []) C (m_X4_putEvent l G F a1 x10 v12 v14 v16 σ r h) cb_X4_putEvent hk1 (by decide) rfl (cf_4 hk1 _) rfl kl_X2_107 ⟨Nat.le_of_ble_eq_true rfl, Nat.le_of_ble_eq_true rfl⟩ ⟨Nat.zero_le _, Nat.zero_le _⟩ hl.1 rfl (Nat.le_of_ble_eq_true rfl) dX2_readEvent_141 rfl) (fun σ3 => ?_)
    refine q_aload_n C dX2_readEvent_144 rfl (lv_at hl 1 rfl) ?_
    refine q_dup C dX2_readEvent_145 rfl ?_
    refine g_4_3 C hk1 kf_X2_88 dX2_readEvent_146 (fun v17 => ?_)
    refine q_iconst C dX2_readEvent_149 rfl (by decide) (fun v18 => ?_)
    refine q_iadd C dX2_readEvent_150 (fun v19 => ?_)
    refine p_4_3 C hk1 kf_X2_88 dX2_readEvent_151 (q_sg (fun σ4 => ?_))
    refine q_aload_n C dX2_readEvent_154 rfl (lv_at hl 0 rfl) ?_
    refine q_c2i C (fun r h => cr_V (As := []) (rest := []) C (m_X2_passSign l G F k0 σ4 r h) cb_X2_passSign hk0 (by decide) rfl (cf_2 hk0 _) rfl kl_X2_76 ⟨Nat.le_of_ble_eq_true rfl, Nat.le_of_ble_eq_true rfl⟩ ⟨Nat.zero_le _, Nat.zero_le _⟩ hl.1 rfl (Nat.le_of_ble_eq_true rfl) dX2_readEvent_155 rfl) (fun v20 σ5 => ?_)
    exact q_zretE C hr hlo dX2_readEvent_158
  have B45 : ∀ (n : Nat) (x7 : Int32) (x8 : Int32) (σ : St) (ls : Array Slot), lv_has ls 4 [(0, .ref (gad G k0)), (1, .ref (gad G a1)), (2, .int x7), (3, .int x8)] → Sim G (AG G) 0 0 p l e { frames := 6, cells := 0, slots := 0, locals := 128 } s m args below meth c (fun r : Int × St => MQ below (QC G (vI r.1) (r.2)) args s 0 0 (AG G)) σ (f_X2_readEvent_L45 F k0 a1   n x7.toInt x8.toInt σ) (F0 m 45 ls []) := by
    intro n
    induction n with
    | zero =>
      intro x7 x8 σ ls hl
      exact sim_none
    | succ n ih =>
      intro x7 x8 σ ls hl
      rw [f_X2_readEvent_L45]
      refine q_iload_n C dX2_readEvent_45 rfl (lv_at hl 3 rfl) ?_
      refine q_gnkN C (host := "CopyWhileRun") (List.mem_of_getElem? (i := 7) rfl) rfl dX2_readEvent_46 ?_
      refine q_iload_n C dX2_readEvent_49 rfl (lv_at hl 2 rfl) ?_
      refine q_nkld C dX2_readEvent_50 (fun v9 => ?_)
      refine q_icmp_ge C 121 dX2_readEvent_51 (by decide) ?_ ?_
      · exact B121 x7 σ ls (lv_sub hl [0, 1, 2] rfl)
      · refine q_iload_n C dX2_readEvent_54 rfl (lv_at hl 3 rfl) ?_
        refine q_iconst C dX2_readEvent_55 rfl (by decide) (fun v21 => ?_)
        refine q_icmp_ge C 121 dX2_readEvent_56 (by decide) ?_ ?_
        · exact B121 x7 σ ls (lv_sub hl [0, 1, 2] rfl)
        · refine q_aload_n C dX2_readEvent_59 rfl (lv_at hl 0 rfl) ?_
          refine g_2_5 C hk0 kf_X2_40 dX2_readEvent_60 (fun v22 => ?_)
          refine q_iconst C dX2_readEvent_63 rfl (by decide) (fun v23 => ?_)
          refine q_icmp_eq C 73 dX2_readEvent_64 (by decide) ?_ ?_
          · refine q_aload_n C dX2_readEvent_73 rfl (lv_at hl 1 rfl) ?_
            refine g_4_0 C hk1 kf_X2_65 dX2_readEvent_74 (fun v24 => ?_)
            refine q_iload_n C dX2_readEvent_77 rfl (lv_at hl 2 rfl) ?_
            refine q_iload_n C dX2_readEvent_78 rfl (lv_at hl 3 rfl) ?_
            refine q_aload_n C dX2_readEvent_79 rfl (lv_at hl 0 rfl) ?_
            refine g_2_8 C hk0 kf_X2_100 dX2_readEvent_80 (fun v25 => ?_)
            refine q_aload_n C dX2_readEvent_83 rfl (lv_at hl 0 rfl) ?_
            refine g_2_4 C hk0 kf_X2_19 dX2_readEvent_84 ?_
            refine q_iconst C dX2_readEvent_87 rfl (by decide) (fun v26 => ?_)
            refine a_ild C (yk_2_4 hk0) (yl_2_4 hk0) dX2_readEvent_88 (fun v27 => ?_)
            refine q_c1i C (fun r h => cr_SN (As := [.int v24, .int x7, .int x8, .int v25, .int v27]) (rest := []) C (host := "CopyWhileRun") (m_X6_fits l G F v24 x7 x8 v25 v27 σ r h) sb_X6_fits (List.mem_of_getElem? (i := 8) rfl) ⟨Nat.le_of_ble_eq_true rfl, Nat.le_of_ble_eq_true rfl⟩ ⟨Nat.zero_le _, Nat.zero_le _⟩ hl.1 rfl (Nat.le_of_ble_eq_true rfl) dX2_readEvent_89 rfl) (fun v28 => ?_)
            refine q_if_ne C 101 dX2_readEvent_92 (by decide) ?_ ?_
            · refine q_aload_n C dX2_readEvent_101 rfl (lv_at hl 0 rfl) ?_
              refine g_2_4 C hk0 kf_X2_19 dX2_readEvent_102 ?_
              refine q_iload_n C dX2_readEvent_105 rfl (lv_at hl 3 rfl) ?_
              refine q_aload_n C dX2_readEvent_106 rfl (lv_at hl 0 rfl) ?_
              refine g_2_8 C hk0 kf_X2_100 dX2_readEvent_107 (fun v29 => ?_)
              refine a_ist C (yk_2_4 hk0) (yl_2_4 hk0) dX2_readEvent_110 (q_sg (fun σ6 => ?_))
              refine q_aload_n C dX2_readEvent_111 rfl (lv_at hl 0 rfl) ?_
              refine q_cv C (fun r h => cr_V (As := []) (rest := []) C (m_X2_advance l G F k0 σ6 r h) cb_X2_advance hk0 (by decide) rfl (cf_2 hk0 _) rfl kl_X2_37 ⟨Nat.le_of_ble_eq_true rfl, Nat.le_of_ble_eq_true rfl⟩ ⟨Nat.zero_le _, Nat.zero_le _⟩ hl.1 rfl (Nat.le_of_ble_eq_true rfl) dX2_readEvent_112 rfl) (fun σ7 => ?_)
              refine q_iinc (k := 3) C (fun v30 => [(3, .int v30), (0, .ref (gad G k0)), (1, .ref (gad G a1)), (2, .int x7)]) dX2_readEvent_115 hl rfl (by decide) (by decide) (fun _ => rfl) (fun v30 ls hl => ?_)
              refine q_goto C 45 dX2_readEvent_118 (by decide) ?_
              exact ih x7 v30 σ7 ls (lv_sub hl [1, 2, 3, 0] rfl)
            · refine q_aload_n C dX2_readEvent_95 rfl (lv_at hl 0 rfl) ?_
              refine q_iconst C dX2_readEvent_96 rfl (by decide) (fun v31 => ?_)
              refine q_c2i C (fun r h => cr_V (As := [.int v31]) (rest := []) C (m_X2_fail l G F k0 v31 σ r h) cb_X2_fail hk0 (by decide) rfl (cf_2 hk0 _) rfl kl_X2_84 ⟨Nat.le_of_ble_eq_true rfl, Nat.le_of_ble_eq_true rfl⟩ ⟨Nat.zero_le _, Nat.zero_le _⟩ hl.1 rfl (Nat.le_of_ble_eq_true rfl) dX2_readEvent_97 rfl) (fun v32 σ8 => ?_)
              exact q_zretE C hr hlo dX2_readEvent_100
          · refine q_aload_n C dX2_readEvent_67 rfl (lv_at hl 0 rfl) ?_
            refine q_iconst C dX2_readEvent_68 rfl (by decide) (fun v33 => ?_)
            refine q_c2i C (fun r h => cr_V (As := [.int v33]) (rest := []) C (m_X2_fail l G F k0 v33 σ r h) cb_X2_fail hk0 (by decide) rfl (cf_2 hk0 _) rfl kl_X2_84 ⟨Nat.le_of_ble_eq_true rfl, Nat.le_of_ble_eq_true rfl⟩ ⟨Nat.zero_le _, Nat.zero_le _⟩ hl.1 rfl (Nat.le_of_ble_eq_true rfl) dX2_readEvent_69 rfl) (fun v34 σ9 => ?_)
            exact q_zretE C hr hlo dX2_readEvent_72
  refine q_aload_n C dX2_readEvent_0 rfl (lv_at hl 0 rfl) ?_
  refine q_c1i C (fun r h => cr_V (As := []) (rest := []) C (m_X2_kindOfWord l G F k0 σ r h) cb_X2_kindOfWord hk0 (by decide) rfl (cf_2 hk0 _) rfl kl_X2_80 ⟨Nat.le_of_ble_eq_true rfl, Nat.le_of_ble_eq_true rfl⟩ ⟨Nat.zero_le _, Nat.zero_le _⟩ hl.1 rfl (Nat.le_of_ble_eq_true rfl) dX2_readEvent_1 rfl) (fun v1 => ?_)
  refine q_istore_n C [(2, .int v1), (0, .ref (gad G k0)), (1, .ref (gad G a1))] dX2_readEvent_4 rfl hl (by decide) rfl (fun ls hl => ?_)
  refine q_iload_n C dX2_readEvent_5 rfl (lv_at hl 0 rfl) ?_
  refine q_iconst C dX2_readEvent_6 rfl (by decide) (fun v2 => ?_)
  refine q_icmp_ne C 16 dX2_readEvent_7 (by decide) ?_ ?_
  · refine q_aload_n C dX2_readEvent_16 rfl (lv_at hl 2 rfl) ?_
    refine g_4_3 C hk1 kf_X2_88 dX2_readEvent_17 (fun v3 => ?_)
    refine q_bipush C dX2_readEvent_20 rfl (by decide) (fun v4 => ?_)
    refine q_icmp_lt C 31 dX2_readEvent_22 (by decide) ?_ ?_
    · refine q_aload_n C dX2_readEvent_31 rfl (lv_at hl 1 rfl) ?_
      refine q_cv C (fun r h => cr_V (As := []) (rest := []) C (m_X2_advance l G F k0 σ r h) cb_X2_advance hk0 (by decide) rfl (cf_2 hk0 _) rfl kl_X2_37 ⟨Nat.le_of_ble_eq_true rfl, Nat.le_of_ble_eq_true rfl⟩ ⟨Nat.zero_le _, Nat.zero_le _⟩ hl.1 rfl (Nat.le_of_ble_eq_true rfl) dX2_readEvent_32 rfl) (fun σ1 => ?_)
      refine q_aload_n C dX2_readEvent_35 rfl (lv_at hl 1 rfl) ?_
      refine g_2_4 C hk0 kf_X2_19 dX2_readEvent_36 ?_
      refine q_iconst C dX2_readEvent_39 rfl (by decide) (fun v5 => ?_)
      refine q_cv C (fun r h => cr_S (As := [.ref (gad G (k0 + 2)), .int v5]) (rest := []) C (m_J7_fill_53178 l G F (k0 + 2) v5 σ1 r h) sb_J7_fill_53178 kl_X2_91 ⟨Nat.le_of_ble_eq_true rfl, Nat.le_of_ble_eq_true rfl⟩ ⟨Nat.zero_le _, Nat.zero_le _⟩ hl.1 rfl (Nat.le_of_ble_eq_true rfl) dX2_readEvent_40 rfl) (fun σ2 => ?_)
      refine q_iconst C dX2_readEvent_43 rfl (by decide) (fun v6 => ?_)
      refine q_istore_n C [(3, .int v6), (2, .int v1), (0, .ref (gad G k0)), (1, .ref (gad G a1))] dX2_readEvent_44 rfl hl (by decide) rfl (fun ls hl => ?_)
      exact B45 F v1 v6 σ2 ls (lv_sub hl [2, 3, 1, 0] rfl)
    · refine q_aload_n C dX2_readEvent_25 rfl (lv_at hl 1 rfl) ?_
      refine q_iconst C dX2_readEvent_26 rfl (by decide) (fun v35 => ?_)
      refine q_c2i C (fun r h => cr_V (As := [.int v35]) (rest := []) C (m_X2_fail l G F k0 v35 σ r h) cb_X2_fail hk0 (by decide) rfl (cf_2 hk0 _) rfl kl_X2_84 ⟨Nat.le_of_ble_eq_true rfl, Nat.le_of_ble_eq_true rfl⟩ ⟨Nat.zero_le _, Nat.zero_le _⟩ hl.1 rfl (Nat.le_of_ble_eq_true rfl) dX2_readEvent_27 rfl) (fun v36 σ10 => ?_)
      exact q_zretE C hr hlo dX2_readEvent_30
  · refine q_aload_n C dX2_readEvent_10 rfl (lv_at hl 1 rfl) ?_
    refine q_iconst C dX2_readEvent_11 rfl (by decide) (fun v37 => ?_)
    refine q_c2i C (fun r h => cr_V (As := [.int v37]) (rest := []) C (m_X2_fail l G F k0 v37 σ r h) cb_X2_fail hk0 (by decide) rfl (cf_2 hk0 _) rfl kl_X2_84 ⟨Nat.le_of_ble_eq_true rfl, Nat.le_of_ble_eq_true rfl⟩ ⟨Nat.zero_le _, Nat.zero_le _⟩ hl.1 rfl (Nat.le_of_ble_eq_true rfl) dX2_readEvent_12 rfl) (fun v38 σ11 => ?_)
    exact q_zretE C hr hlo dX2_readEvent_15
def f_X2_read_L40 (F : Nat) (k0 : Nat) (a1 : Nat)   : Nat → Int → Int → St → Option (Int × St)
  | 0, _, _, _ => none
  | n + 1, x7, x8, σ =>
    z_gt 700 fun v9 =>
    if v9 ≤ x8 then (
      z_bo x7 <| some (x7, σ))
    else (
      if x7 = 0 then (
        z_bo x7 <| some (x7, σ))
      else (
        z_gt (σ k0 5) fun v10 =>
        if v10 = 0 then (
          z_bo x7 <| some (x7, σ))
        else (
          z_c2 (f_X2_readEvent F k0 a1 σ) fun v11 σ7 =>
          z_ck (x8 + 1) fun v12 =>
          f_X2_read_L40 F k0 a1 n v11 v12 σ7)))

def f_X2_read (F : Nat) (k0 : Nat) (a1 : Nat) (σ : St) : Option (Int × St) :=
  z_ob 2 k0 <| z_ob 4 a1 <| 
  z_gt 0 fun v1 =>
  z_sg (z_up σ k0 1 v1) fun σ1 =>
  z_gt (-1) fun v2 =>
  z_sg (z_up σ1 k0 2 v2) fun σ2 =>
  z_gt 0 fun v3 =>
  z_sg (z_up σ2 k0 7 v3) fun σ3 =>
  z_c1 (f_X4_clear F a1 σ3) fun σ4 =>
  z_c1 (f_X2_advance F k0 σ4) fun σ5 =>
  z_gt (σ5 k0 5) fun v4 =>
  if ¬ v4 = 0 then (
    z_c2 (f_X2_readHead F k0 a1 σ5) fun v5 σ6 =>
    z_gt 0 fun v6 =>
    f_X2_read_L40 F k0 a1 F v5 v6 σ6)
  else (
    z_gt 1 fun v13 =>
    z_bo v13 <| some (v13, σ5))
theorem cb_X2_read : CB yX2_read cX2_read 4 (some .boolean) 1 := ⟨ki_X2_read, kq_X2_read, kn_X2, kc_X2_read, by decide +kernel, by decide +kernel, by decide +kernel⟩
set_option maxRecDepth 20000 in
set_option maxHeartbeats 4000000 in
theorem m_X2_read (l : Launch) (G : GG) (F : Nat) (k0 : Nat) (a1 : Nat) (σ : St) : ∀ r, f_X2_read F k0 a1 σ = some r → MC G l yX2_read cX2_read 4 (some .boolean) { frames := 7, cells := 0, slots := 0, locals := 151 } [.ref (gad G k0), .ref (gad G a1)] σ (vI r.1) r.2 := by
  refine MC_of (own := RX2) (fun r : Int × St => vI r.1) (fun r : Int × St => r.2) (by decide +kernel) rfl (Nat.le_of_ble_eq_true rfl) ?_
  intro p e s m args below meth c C hr hlo ls hl
  have hl : lv_has ls 4 [(0, .ref (gad G k0)), (1, .ref (gad G a1))] := hl
  unfold f_X2_read
  refine q_ob (fun hk0 => ?_)
  refine q_ob (fun hk1 => ?_)
  have B40 : ∀ (n : Nat) (x7 : Int32) (x8 : Int32) (σ : St) (ls : Array Slot), lv_has ls 4 [(0, .ref (gad G k0)), (1, .ref (gad G a1)), (2, .int x7), (3, .int x8)] → Sim G (AG G) 0 0 p l e { frames := 7, cells := 0, slots := 0, locals := 151 } s m args below meth c (fun r : Int × St => MQ below (QC G (vI r.1) (r.2)) args s 0 0 (AG G)) σ (f_X2_read_L40 F k0 a1   n x7.toInt x8.toInt σ) (F0 m 40 ls []) := by
    intro n
    induction n with
    | zero =>
      intro x7 x8 σ ls hl
      exact sim_none
    | succ n ih =>
      intro x7 x8 σ ls hl
      rw [f_X2_read_L40]
      refine q_iload_n C dX2_read_40 rfl (lv_at hl 3 rfl) ?_
      refine q_sipush C dX2_read_41 rfl (by decide) (fun v9 => ?_)
      refine q_icmp_ge C 70 dX2_read_44 (by decide) ?_ ?_
      · refine q_iload_n C dX2_read_70 rfl (lv_at hl 2 rfl) ?_
        exact q_zretE C hr hlo dX2_read_71
      · refine q_iload_n C dX2_read_47 rfl (lv_at hl 2 rfl) ?_
        refine q_if_eq C 70 dX2_read_48 (by decide) ?_ ?_
        · refine q_iload_n C dX2_read_70 rfl (lv_at hl 2 rfl) ?_
          exact q_zretE C hr hlo dX2_read_71
        · refine q_aload_n C dX2_read_51 rfl (lv_at hl 0 rfl) ?_
          refine g_2_5 C hk0 kf_X2_40 dX2_read_52 (fun v10 => ?_)
          refine q_if_eq C 70 dX2_read_55 (by decide) ?_ ?_
          · refine q_iload_n C dX2_read_70 rfl (lv_at hl 2 rfl) ?_
            exact q_zretE C hr hlo dX2_read_71
          · refine q_aload_n C dX2_read_58 rfl (lv_at hl 0 rfl) ?_
            refine q_aload_n C dX2_read_59 rfl (lv_at hl 1 rfl) ?_
            refine q_c2i C (fun r h => cr_V (As := [.ref (gad G a1)]) (rest := []) C (m_X2_readEvent l G F k0 a1 σ r h) cb_X2_readEvent hk0 (by decide) rfl (cf_2 hk0 _) rfl kl_X2_47 ⟨Nat.le_of_ble_eq_true rfl, Nat.le_of_ble_eq_true rfl⟩ ⟨Nat.zero_le _, Nat.zero_le _⟩ hl.1 rfl (Nat.le_of_ble_eq_true rfl) dX2_read_60 rfl) (fun v11 σ7 => ?_)
            refine q_istore_n C [(2, .int v11), (0, .ref (gad G k0)), (1, .ref (gad G a1)), (3, .int x8)] dX2_read_63 rfl hl (by decide) rfl (fun ls hl => ?_)
            refine q_iinc (k := 3) C (fun v12 => [(3, .int v12), (2, .int v11), (0, .ref (gad G k0)), (1, .ref (gad G a1))]) dX2_read_64 hl rfl (by decide) (by decide) (fun _ => rfl) (fun v12 ls hl => ?_)
            refine q_goto C 40 dX2_read_67 (by decide) ?_
            exact ih v11 v12 σ7 ls (lv_sub hl [2, 3, 1, 0] rfl)
  refine q_aload_n C dX2_read_0 rfl (lv_at hl 0 rfl) ?_
  refine q_iconst C dX2_read_1 rfl (by decide) (fun v1 => ?_)
  refine p_2_1 C hk0 kf_X2_26 dX2_read_2 (q_sg (fun σ1 => ?_))
  refine q_aload_n C dX2_read_5 rfl (lv_at hl 0 rfl) ?_
  refine q_iconst C dX2_read_6 rfl (by decide) (fun v2 => ?_)
  refine p_2_2 C hk0 kf_X2_9 dX2_read_7 (q_sg (fun σ2 => ?_))
  refine q_aload_n C dX2_read_10 rfl (lv_at hl 0 rfl) ?_
  refine q_iconst C dX2_read_11 rfl (by decide) (fun v3 => ?_)
  refine p_2_7 C hk0 kf_X2_29 dX2_read_12 (q_sg (fun σ3 => ?_))
  refine q_aload_n C dX2_read_15 rfl (lv_at hl 1 rfl) ?_
  refine q_cv C (fun r h => cr_V (As := []) (rest := []) C (m_X4_clear l G F a1 σ3 r h) cb_X4_clear hk1 (by decide) rfl (cf_4 hk1 _) rfl kl_X2_32 ⟨Nat.le_of_ble_eq_true rfl, Nat.le_of_ble_eq_true rfl⟩ ⟨Nat.zero_le _, Nat.zero_le _⟩ hl.1 rfl (Nat.le_of_ble_eq_true rfl) dX2_read_16 rfl) (fun σ4 => ?_)
  refine q_aload_n C dX2_read_19 rfl (lv_at hl 0 rfl) ?_
  refine q_cv C (fun r h => cr_V (As := []) (rest := []) C (m_X2_advance l G F k0 σ4 r h) cb_X2_advance hk0 (by decide) rfl (cf_2 hk0 _) rfl kl_X2_37 ⟨Nat.le_of_ble_eq_true rfl, Nat.le_of_ble_eq_true rfl⟩ ⟨Nat.zero_le _, Nat.zero_le _⟩ hl.1 rfl (Nat.le_of_ble_eq_true rfl) dX2_read_20 rfl) (fun σ5 => ?_)
  refine q_aload_n C dX2_read_23 rfl (lv_at hl 0 rfl) ?_
  refine g_2_5 C hk0 kf_X2_40 dX2_read_24 (fun v4 => ?_)
  refine q_if_ne C 32 dX2_read_27 (by decide) ?_ ?_
  · refine q_aload_n C dX2_read_32 rfl (lv_at hl 0 rfl) ?_
    refine q_aload_n C dX2_read_33 rfl (lv_at hl 1 rfl) ?_
    refine q_c2i C (fun r h => cr_V (As := [.ref (gad G a1)]) (rest := []) C (m_X2_readHead l G F k0 a1 σ5 r h) cb_X2_readHead hk0 (by decide) rfl (cf_2 hk0 _) rfl kl_X2_43 ⟨Nat.le_of_ble_eq_true rfl, Nat.le_of_ble_eq_true rfl⟩ ⟨Nat.zero_le _, Nat.zero_le _⟩ hl.1 rfl (Nat.le_of_ble_eq_true rfl) dX2_read_34 rfl) (fun v5 σ6 => ?_)
    refine q_istore_n C [(2, .int v5), (0, .ref (gad G k0)), (1, .ref (gad G a1))] dX2_read_37 rfl hl (by decide) rfl (fun ls hl => ?_)
    refine q_iconst C dX2_read_38 rfl (by decide) (fun v6 => ?_)
    refine q_istore_n C [(3, .int v6), (2, .int v5), (0, .ref (gad G k0)), (1, .ref (gad G a1))] dX2_read_39 rfl hl (by decide) rfl (fun ls hl => ?_)
    exact B40 F v5 v6 σ6 ls (lv_sub hl [2, 3, 1, 0] rfl)
  · refine q_iconst C dX2_read_30 rfl (by decide) (fun v13 => ?_)
    exact q_zretE C hr hlo dX2_read_31
def f_X3_clear (F : Nat) (k0 : Nat) (a1 : Int) (a2 : Int) (σ : St) : Option (St) :=
  z_ob 3 k0 <| 
  z_gt 0 fun v1 =>
  z_gt 32 fun v2 =>
  z_gt (z_min a1 v2) fun v3 =>
  z_gt (z_max v1 v3) fun v4 =>
  z_sg (z_up σ k0 8 v4) fun σ1 =>
  z_sg (z_up σ1 k0 9 a2) fun σ2 =>
  z_gt (σ2 k0 8) fun v5 =>
  z_c1 (f_X0_clear F (k0 + 1) v5 σ2) fun σ3 =>
  z_gt 0 fun v6 =>
  z_sg (z_up σ3 k0 1 v6) fun σ4 =>
  z_gt 0 fun v7 =>
  z_sg (z_up σ4 k0 2 v7) fun σ5 =>
  z_gt 0 fun v8 =>
  z_sg (z_up σ5 k0 3 v8) fun σ6 =>
  z_gt (-1) fun v9 =>
  z_sg (z_up σ6 k0 4 v9) fun σ7 =>
  z_gt 0 fun v10 =>
  z_bo v10 <| z_sg (z_up σ7 k0 10 v10) fun σ8 =>
  z_gt 0 fun v11 =>
  z_sg (z_up σ8 k0 5 v11) fun σ9 =>
  z_gt 0 fun v12 =>
  z_sg (z_up σ9 k0 6 v12) fun σ10 =>
  z_gt 0 fun v13 =>
  z_sg (z_up σ10 k0 7 v13) fun σ11 =>
  z_gt (-1) fun v14 =>
  z_c1 (f_J7_fill_53178 F (k0 + 5) v14 σ11) fun σ12 =>
  z_gt 0 fun v15 =>
  z_c1 (f_J7_fill_53178 F (k0 + 6) v15 σ12) fun σ13 =>
  some σ13
theorem cb_X3_clear : CB yX3_clear cX3_clear 3 none 2 := ⟨ki_X3_clear, kq_X3_clear, kn_X3, kc_X3_clear, by decide +kernel, by decide +kernel, by decide +kernel⟩
set_option maxRecDepth 20000 in
set_option maxHeartbeats 4000000 in
theorem m_X3_clear (l : Launch) (G : GG) (F : Nat) (k0 : Nat) (a1 : Int32) (a2 : Int32) (σ : St) : ∀ r, f_X3_clear F k0 a1.toInt a2.toInt σ = some r → MC G l yX3_clear cX3_clear 3 none { frames := 2, cells := 0, slots := 0, locals := 66 } [.ref (gad G k0), .int a1, .int a2] σ vV r := by
  refine MC_of (own := RX3) (fun _ => vV) (fun r => r) (by decide +kernel) rfl (Nat.le_of_ble_eq_true rfl) ?_
  intro p e s m args below meth c C hr hlo ls hl
  have hl : lv_has ls 3 [(0, .ref (gad G k0)), (1, .int a1), (2, .int a2)] := hl
  unfold f_X3_clear
  refine q_ob (fun hk0 => ?_)
  refine q_aload_n C dX3_clear_0 rfl (lv_at hl 0 rfl) ?_
  refine q_iconst C dX3_clear_1 rfl (by decide) (fun v1 => ?_)
  refine q_iload_n C dX3_clear_2 rfl (lv_at hl 1 rfl) ?_
  refine q_bipush C dX3_clear_3 rfl (by decide) (fun v2 => ?_)
  refine q_min C kl_X3_39 ⟨Nat.le_of_ble_eq_true rfl, Nat.le_of_ble_eq_true rfl⟩ ⟨Nat.zero_le _, Nat.zero_le _⟩ hl.1 dX3_clear_5 (fun v3 => ?_)
  refine q_max C kl_X3_45 ⟨Nat.le_of_ble_eq_true rfl, Nat.le_of_ble_eq_true rfl⟩ ⟨Nat.zero_le _, Nat.zero_le _⟩ hl.1 dX3_clear_8 (fun v4 => ?_)
  refine p_3_8 C hk0 kf_X3_48 dX3_clear_11 (q_sg (fun σ1 => ?_))
  refine q_aload_n C dX3_clear_14 rfl (lv_at hl 0 rfl) ?_
  refine q_iload_n C dX3_clear_15 rfl (lv_at hl 2 rfl) ?_
  refine p_3_9 C hk0 kf_X3_51 dX3_clear_16 (q_sg (fun σ2 => ?_))
  refine q_aload_n C dX3_clear_19 rfl (lv_at hl 0 rfl) ?_
  refine g_3_0 C hk0 kf_X3_12 dX3_clear_20 ?_
  refine q_aload_n C dX3_clear_23 rfl (lv_at hl 0 rfl) ?_
  refine g_3_8 C hk0 kf_X3_48 dX3_clear_24 (fun v5 => ?_)
  refine q_cv C (fun r h => cr_V (As := [.int v5]) (rest := []) C (m_X0_clear l G F (k0 + 1) v5 σ2 r h) cb_X0_clear (yk_3_0 hk0) (by decide) rfl (cf_0 (yk_3_0 hk0) _) rfl kl_X3_54 ⟨Nat.le_of_ble_eq_true rfl, Nat.le_of_ble_eq_true rfl⟩ ⟨Nat.zero_le _, Nat.zero_le _⟩ hl.1 rfl (Nat.le_of_ble_eq_true rfl) dX3_clear_27 rfl) (fun σ3 => ?_)
  refine q_aload_n C dX3_clear_30 rfl (lv_at hl 0 rfl) ?_
  refine q_iconst C dX3_clear_31 rfl (by decide) (fun v6 => ?_)
  refine p_3_1 C hk0 kf_X3_58 dX3_clear_32 (q_sg (fun σ4 => ?_))
  refine q_aload_n C dX3_clear_35 rfl (lv_at hl 0 rfl) ?_
  refine q_iconst C dX3_clear_36 rfl (by decide) (fun v7 => ?_)
  refine p_3_2 C hk0 kf_X3_61 dX3_clear_37 (q_sg (fun σ5 => ?_))
  refine q_aload_n C dX3_clear_40 rfl (lv_at hl 0 rfl) ?_
  refine q_iconst C dX3_clear_41 rfl (by decide) (fun v8 => ?_)
  refine p_3_3 C hk0 kf_X3_64 dX3_clear_42 (q_sg (fun σ6 => ?_))
  refine q_aload_n C dX3_clear_45 rfl (lv_at hl 0 rfl) ?_
  refine q_iconst C dX3_clear_46 rfl (by decide) (fun v9 => ?_)
  refine p_3_4 C hk0 kf_X3_18 dX3_clear_47 (q_sg (fun σ7 => ?_))
  refine q_aload_n C dX3_clear_50 rfl (lv_at hl 0 rfl) ?_
  refine q_iconst C dX3_clear_51 rfl (by decide) (fun v10 => ?_)
  refine p_3_10 C hk0 kf_X3_67 dX3_clear_52 (q_sg (fun σ8 => ?_))
  refine q_aload_n C dX3_clear_55 rfl (lv_at hl 0 rfl) ?_
  refine q_iconst C dX3_clear_56 rfl (by decide) (fun v11 => ?_)
  refine p_3_5 C hk0 kf_X3_71 dX3_clear_57 (q_sg (fun σ9 => ?_))
  refine q_aload_n C dX3_clear_60 rfl (lv_at hl 0 rfl) ?_
  refine q_iconst C dX3_clear_61 rfl (by decide) (fun v12 => ?_)
  refine p_3_6 C hk0 kf_X3_74 dX3_clear_62 (q_sg (fun σ10 => ?_))
  refine q_aload_n C dX3_clear_65 rfl (lv_at hl 0 rfl) ?_
  refine q_iconst C dX3_clear_66 rfl (by decide) (fun v13 => ?_)
  refine p_3_7 C hk0 kf_X3_77 dX3_clear_67 (q_sg (fun σ11 => ?_))
  refine q_aload_n C dX3_clear_70 rfl (lv_at hl 0 rfl) ?_
  refine g_3_12 C hk0 kf_X3_25 dX3_clear_71 ?_
  refine q_iconst C dX3_clear_74 rfl (by decide) (fun v14 => ?_)
  refine q_cv C (fun r h => cr_S (As := [.ref (gad G (k0 + 5)), .int v14]) (rest := []) C (m_J7_fill_53178 l G F (k0 + 5) v14 σ11 r h) sb_J7_fill_53178 kl_X3_80 ⟨Nat.le_of_ble_eq_true rfl, Nat.le_of_ble_eq_true rfl⟩ ⟨Nat.zero_le _, Nat.zero_le _⟩ hl.1 rfl (Nat.le_of_ble_eq_true rfl) dX3_clear_75 rfl) (fun σ12 => ?_)
  refine q_aload_n C dX3_clear_78 rfl (lv_at hl 0 rfl) ?_
  refine g_3_13 C hk0 kf_X3_29 dX3_clear_79 ?_
  refine q_iconst C dX3_clear_82 rfl (by decide) (fun v15 => ?_)
  refine q_cv C (fun r h => cr_S (As := [.ref (gad G (k0 + 6)), .int v15]) (rest := []) C (m_J7_fill_53178 l G F (k0 + 6) v15 σ12 r h) sb_J7_fill_53178 kl_X3_80 ⟨Nat.le_of_ble_eq_true rfl, Nat.le_of_ble_eq_true rfl⟩ ⟨Nat.zero_le _, Nat.zero_le _⟩ hl.1 rfl (Nat.le_of_ble_eq_true rfl) dX3_clear_83 rfl) (fun σ13 => ?_)
  exact q_vretE C hr hlo dX3_clear_86
def f_X3_refusal_J24 (F : Nat) (k0 : Nat) (a1 : Int)  (σ : St) (x6 : Int)  : Option (Int) :=
  if x6 = 0 then (
    z_gt 5 fun v7 =>
    if ¬ a1 = v7 then (
      z_gt 0 fun v8 =>
      some v8)
    else (
      z_gt (σ k0 10) fun v9 =>
      if ¬ v9 = 0 then (
        z_gt 0 fun v10 =>
        some v10)
      else (
        z_gt 3 fun v11 =>
        some v11)))
  else (
    z_gt 1 fun v12 =>
    some v12)

def f_X3_refusal_J13 (F : Nat) (k0 : Nat) (a1 : Int)  (σ : St) (x4 : Int)  : Option (Int) :=
  z_gt 4 fun v5 =>
  if a1 = v5 then (
    f_X3_refusal_J24 F k0 a1 σ x4)
  else (
    z_gt 5 fun v13 =>
    if ¬ a1 = v13 then (
      z_gt 5 fun v14 =>
      if a1 ≤ v14 then (
        z_gt 0 fun v15 =>
        some v15)
      else (
        if ¬ x4 = 0 then (
          z_gt 0 fun v16 =>
          some v16)
        else (
          z_gt 2 fun v17 =>
          some v17)))
    else (
      f_X3_refusal_J24 F k0 a1 σ x4))

def f_X3_refusal (F : Nat) (k0 : Nat) (a1 : Int) (σ : St) : Option (Int) :=
  z_ob 3 k0 <| 
  z_gt (σ k0 4) fun v1 =>
  z_gt (-1) fun v2 =>
  if v1 = v2 then (
    z_gt 0 fun v3 =>
    f_X3_refusal_J13 F k0 a1 σ v3)
  else (
    z_gt 1 fun v18 =>
    f_X3_refusal_J13 F k0 a1 σ v18)
theorem cb_X3_refusal : CB yX3_refusal cX3_refusal 3 (some .int) 1 := ⟨ki_X3_refusal, kq_X3_refusal, kn_X3, kc_X3_refusal, by decide +kernel, by decide +kernel, by decide +kernel⟩
set_option maxRecDepth 20000 in
set_option maxHeartbeats 4000000 in
theorem m_X3_refusal (l : Launch) (G : GG) (F : Nat) (k0 : Nat) (a1 : Int32) (σ : St) : ∀ r, f_X3_refusal F k0 a1.toInt σ = some r → MC G l yX3_refusal cX3_refusal 3 (some .int) { frames := 0, cells := 0, slots := 0, locals := 0 } [.ref (gad G k0), .int a1] σ (vI r) σ := by
  refine MC_of (own := RX3) (vI) (fun _ => σ) (by decide +kernel) rfl (Nat.le_of_ble_eq_true rfl) ?_
  intro p e s m args below meth c C hr hlo ls hl
  have hl : lv_has ls 3 [(0, .ref (gad G k0)), (1, .int a1)] := hl
  unfold f_X3_refusal
  refine q_ob (fun hk0 => ?_)
  have B24 : ∀  (x6 : Int32) (ls : Array Slot), lv_has ls 3 [(0, .ref (gad G k0)), (1, .int a1), (2, .int x6)] → Sim G (AG G) 0 0 p l e { frames := 0, cells := 0, slots := 0, locals := 0 } s m args below meth c (fun r : Int => MQ below (QC G (vI r) (σ)) args s 0 0 (AG G)) σ (f_X3_refusal_J24 F k0 a1.toInt  σ  x6.toInt) (F0 m 24 ls []) := by
    intro x6 ls hl
    unfold f_X3_refusal_J24
    refine q_iload_n C dX3_refusal_24 rfl (lv_at hl 2 rfl) ?_
    refine q_if_eq C 30 dX3_refusal_25 (by decide) ?_ ?_
    · refine q_iload_n C dX3_refusal_30 rfl (lv_at hl 1 rfl) ?_
      refine q_iconst C dX3_refusal_31 rfl (by decide) (fun v7 => ?_)
      refine q_icmp_ne C 46 dX3_refusal_32 (by decide) ?_ ?_
      · refine q_iconst C dX3_refusal_46 rfl (by decide) (fun v8 => ?_)
        exact q_iret C hr hlo dX3_refusal_47
      · refine q_aload_n C dX3_refusal_35 rfl (lv_at hl 0 rfl) ?_
        refine g_3_10 C hk0 kf_X3_67 dX3_refusal_36 (fun v9 => ?_)
        refine q_if_ne C 46 dX3_refusal_39 (by decide) ?_ ?_
        · refine q_iconst C dX3_refusal_46 rfl (by decide) (fun v10 => ?_)
          exact q_iret C hr hlo dX3_refusal_47
        · refine q_iconst C dX3_refusal_42 rfl (by decide) (fun v11 => ?_)
          refine q_goto C 47 dX3_refusal_43 (by decide) ?_
          exact q_iret C hr hlo dX3_refusal_47
    · refine q_iconst C dX3_refusal_28 rfl (by decide) (fun v12 => ?_)
      exact q_iret C hr hlo dX3_refusal_29
  have B13 : ∀  (x4 : Int32) (ls : Array Slot), lv_has ls 3 [(0, .ref (gad G k0)), (1, .int a1)] → Sim G (AG G) 0 0 p l e { frames := 0, cells := 0, slots := 0, locals := 0 } s m args below meth c (fun r : Int => MQ below (QC G (vI r) (σ)) args s 0 0 (AG G)) σ (f_X3_refusal_J13 F k0 a1.toInt  σ  x4.toInt) (F0 m 13 ls [.int x4]) := by
    intro x4 ls hl
    unfold f_X3_refusal_J13
    refine q_istore_n C [(2, .int x4), (0, .ref (gad G k0)), (1, .int a1)] dX3_refusal_13 rfl hl (by decide) rfl (fun ls hl => ?_)
    refine q_iload_n C dX3_refusal_14 rfl (lv_at hl 2 rfl) ?_
    refine q_iconst C dX3_refusal_15 rfl (by decide) (fun v5 => ?_)
    refine q_icmp_eq C 24 dX3_refusal_16 (by decide) ?_ ?_
    · exact B24 x4 ls (lv_sub hl [1, 2, 0] rfl)
    · refine q_iload_n C dX3_refusal_19 rfl (lv_at hl 2 rfl) ?_
      refine q_iconst C dX3_refusal_20 rfl (by decide) (fun v13 => ?_)
      refine q_icmp_ne C 48 dX3_refusal_21 (by decide) ?_ ?_
      · refine q_iload_n C dX3_refusal_48 rfl (lv_at hl 2 rfl) ?_
        refine q_iconst C dX3_refusal_49 rfl (by decide) (fun v14 => ?_)
        refine q_icmp_le C 61 dX3_refusal_50 (by decide) ?_ ?_
        · refine q_iconst C dX3_refusal_61 rfl (by decide) (fun v15 => ?_)
          exact q_iret C hr hlo dX3_refusal_62
        · refine q_iload_n C dX3_refusal_53 rfl (lv_at hl 0 rfl) ?_
          refine q_if_ne C 61 dX3_refusal_54 (by decide) ?_ ?_
          · refine q_iconst C dX3_refusal_61 rfl (by decide) (fun v16 => ?_)
            exact q_iret C hr hlo dX3_refusal_62
          · refine q_iconst C dX3_refusal_57 rfl (by decide) (fun v17 => ?_)
            refine q_goto C 62 dX3_refusal_58 (by decide) ?_
            exact q_iret C hr hlo dX3_refusal_62
      · exact B24 x4 ls (lv_sub hl [1, 2, 0] rfl)
  refine q_aload_n C dX3_refusal_0 rfl (lv_at hl 0 rfl) ?_
  refine g_3_4 C hk0 kf_X3_18 dX3_refusal_1 (fun v1 => ?_)
  refine q_iconst C dX3_refusal_4 rfl (by decide) (fun v2 => ?_)
  refine q_icmp_eq C 12 dX3_refusal_5 (by decide) ?_ ?_
  · refine q_iconst C dX3_refusal_12 rfl (by decide) (fun v3 => ?_)
    exact B13 v3 ls (lv_sub hl [0, 1] rfl)
  · refine q_iconst C dX3_refusal_8 rfl (by decide) (fun v18 => ?_)
    refine q_goto C 13 dX3_refusal_9 (by decide) ?_
    exact B13 v18 ls (lv_sub hl [0, 1] rfl)
def f_X3_allCells (F : Nat) (k0 : Nat) (σ : St) : Option (Int) :=
  z_ob 3 k0 <| 
  z_gt 1 fun v1 =>
  z_gt (σ k0 8) fun v2 =>
  z_gt (z_lshl v1 v2) fun v3 =>
  z_gt 1 fun v4 =>
  z_lk (v3 - v4) fun v5 =>
  z_gt (z_l2i v5) fun v6 =>
  some v6
theorem cb_X3_allCells : CB yX3_allCells cX3_allCells 1 (some .int) 0 := ⟨ki_X3_allCells, kq_X3_allCells, kn_X3, kc_X3_allCells, by decide +kernel, by decide +kernel, by decide +kernel⟩
set_option maxRecDepth 20000 in
set_option maxHeartbeats 4000000 in
theorem m_X3_allCells (l : Launch) (G : GG) (F : Nat) (k0 : Nat) (σ : St) : ∀ r, f_X3_allCells F k0 σ = some r → MC G l yX3_allCells cX3_allCells 1 (some .int) { frames := 0, cells := 0, slots := 0, locals := 0 } [.ref (gad G k0)] σ (vI r) σ := by
  refine MC_of (own := RX3) (vI) (fun _ => σ) (by decide +kernel) rfl (Nat.le_of_ble_eq_true rfl) ?_
  intro p e s m args below meth c C hr hlo ls hl
  have hl : lv_has ls 1 [(0, .ref (gad G k0))] := hl
  unfold f_X3_allCells
  refine q_ob (fun hk0 => ?_)
  refine q_lconst C dX3_allCells_0 rfl (by decide) (fun v1 => ?_)
  refine q_aload_n C dX3_allCells_1 rfl (lv_at hl 0 rfl) ?_
  refine g_3_8 C hk0 kf_X3_48 dX3_allCells_2 (fun v2 => ?_)
  refine q_lshl C dX3_allCells_5 (fun v3 => ?_)
  refine q_lconst C dX3_allCells_6 rfl (by decide) (fun v4 => ?_)
  refine q_lsub C dX3_allCells_7 (fun v5 => ?_)
  refine q_l2i C dX3_allCells_8 (fun v6 => ?_)
  exact q_iret C hr hlo dX3_allCells_9
def f_X3_begin (F : Nat) (k0 : Nat) (a1 : Int) (a2 : Int) (a3 : Int) (σ : St) : Option (St) :=
  z_ob 3 k0 <| 
  z_gt (σ k0 3) fun v1 =>
  z_gt 30 fun v2 =>
  if v2 ≤ v1 then (
    some σ)
  else (
    z_gt (σ k0 3) fun v3 =>
    z_ix v3 30 <|
    z_c1 (f_X1_begin F (k0 + 7 + 1 + 3 * v3.toNat) a1 a2 a3 σ) fun σ1 =>
    z_gt (σ1 k0 3) fun v5 =>
    z_sg (z_up σ1 k0 4 v5) fun σ2 =>
    z_gt (σ2 k0 3) fun v6 =>
    z_gt 1 fun v7 =>
    z_ck (v6 + v7) fun v8 =>
    z_sg (z_up σ2 k0 3 v8) fun σ3 =>
    some σ3)
theorem cb_X3_begin : CB yX3_begin cX3_begin 4 none 3 := ⟨ki_X3_begin, kq_X3_begin, kn_X3, kc_X3_begin, by decide +kernel, by decide +kernel, by decide +kernel⟩
set_option maxRecDepth 20000 in
set_option maxHeartbeats 4000000 in
theorem m_X3_begin (l : Launch) (G : GG) (F : Nat) (k0 : Nat) (a1 : Int32) (a2 : Int32) (a3 : Int32) (σ : St) : ∀ r, f_X3_begin F k0 a1.toInt a2.toInt a3.toInt σ = some r → MC G l yX3_begin cX3_begin 4 none { frames := 1, cells := 0, slots := 0, locals := 23 } [.ref (gad G k0), .int a1, .int a2, .int a3] σ vV r := by
  refine MC_of (own := RX3) (fun _ => vV) (fun r => r) (by decide +kernel) rfl (Nat.le_of_ble_eq_true rfl) ?_
  intro p e s m args below meth c C hr hlo ls hl
  have hl : lv_has ls 4 [(0, .ref (gad G k0)), (1, .int a1), (2, .int a2), (3, .int a3)] := hl
  unfold f_X3_begin
  refine q_ob (fun hk0 => ?_)
  refine q_aload_n C dX3_begin_0 rfl (lv_at hl 0 rfl) ?_
  refine g_3_3 C hk0 kf_X3_64 dX3_begin_1 (fun v1 => ?_)
  refine q_bipush C dX3_begin_4 rfl (by decide) (fun v2 => ?_)
  refine q_icmp_ge C 42 dX3_begin_6 (by decide) ?_ ?_
  · exact q_vretE C hr hlo dX3_begin_42
  · refine q_aload_n C dX3_begin_9 rfl (lv_at hl 0 rfl) ?_
    refine g_3_14 C hk0 kf_X3_34 dX3_begin_10 ?_
    refine q_aload_n C dX3_begin_13 rfl (lv_at hl 0 rfl) ?_
    refine g_3_3 C hk0 kf_X3_64 dX3_begin_14 (fun v3 => ?_)
    refine a_ald12 C (yk_3_14 hk0) (yl_3_14 hk0) dX3_begin_17 (fun h4 => ?_)
    refine q_iload_n C dX3_begin_18 rfl (lv_at hl 1 rfl) ?_
    refine q_iload_n C dX3_begin_19 rfl (lv_at hl 2 rfl) ?_
    refine q_iload_n C dX3_begin_20 rfl (lv_at hl 3 rfl) ?_
    refine q_cv C (fun r h => cr_V (As := [.int a1, .int a2, .int a3]) (rest := []) C (m_X1_begin l G F (k0 + 7 + 1 + 3 * v3.toInt.toNat) a1 a2 a3 σ r h) cb_X1_begin (ye_12 (yk_3_14 hk0) (i := v3.toInt.toNat) (by omega)) (by decide) rfl (cf_1 (ye_12 (yk_3_14 hk0) (i := v3.toInt.toNat) (by omega)) _) rfl kl_X3_159 ⟨Nat.le_of_ble_eq_true rfl, Nat.le_of_ble_eq_true rfl⟩ ⟨Nat.zero_le _, Nat.zero_le _⟩ hl.1 rfl (Nat.le_of_ble_eq_true rfl) dX3_begin_21 rfl) (fun σ1 => ?_)
    refine q_aload_n C dX3_begin_24 rfl (lv_at hl 0 rfl) ?_
    refine q_aload_n C dX3_begin_25 rfl (lv_at hl 0 rfl) ?_
    refine g_3_3 C hk0 kf_X3_64 dX3_begin_26 (fun v5 => ?_)
    refine p_3_4 C hk0 kf_X3_18 dX3_begin_29 (q_sg (fun σ2 => ?_))
    refine q_aload_n C dX3_begin_32 rfl (lv_at hl 0 rfl) ?_
    refine q_dup C dX3_begin_33 rfl ?_
    refine g_3_3 C hk0 kf_X3_64 dX3_begin_34 (fun v6 => ?_)
    refine q_iconst C dX3_begin_37 rfl (by decide) (fun v7 => ?_)
    refine q_iadd C dX3_begin_38 (fun v8 => ?_)
    refine p_3_3 C hk0 kf_X3_64 dX3_begin_39 (q_sg (fun σ3 => ?_))
    exact q_vretE C hr hlo dX3_begin_42
def f_X3_copyOf (F : Nat) (k0 : Nat) (a1 : Int) (σ : St) : Option (Option Nat) :=
  z_ob 3 k0 <| 
  if a1 < 0 then (
    some none)
  else (
    z_gt (σ k0 3) fun v1 =>
    if v1 ≤ a1 then (
      some none)
    else (
      z_gt 30 fun v2 =>
      if v2 ≤ a1 then (
        some none)
      else (
        z_ix a1 30 <|
        some (some (k0 + 7 + 1 + 3 * a1.toNat)))))
theorem cb_X3_copyOf : CB yX3_copyOf cX3_copyOf 2 (some (.object "CopyWhileRun$Copy")) 1 := ⟨ki_X3_copyOf, kq_X3_copyOf, kn_X3, kc_X3_copyOf, by decide +kernel, by decide +kernel, by decide +kernel⟩
set_option maxRecDepth 20000 in
set_option maxHeartbeats 4000000 in
theorem m_X3_copyOf (l : Launch) (G : GG) (F : Nat) (k0 : Nat) (a1 : Int32) (σ : St) : ∀ r, f_X3_copyOf F k0 a1.toInt σ = some r → MC G l yX3_copyOf cX3_copyOf 2 (some (.object "CopyWhileRun$Copy")) { frames := 0, cells := 0, slots := 0, locals := 0 } [.ref (gad G k0), .int a1] σ (vA G r) σ := by
  refine MC_of (own := RX3) (vA G) (fun _ => σ) (by decide +kernel) rfl (Nat.le_of_ble_eq_true rfl) ?_
  intro p e s m args below meth c C hr hlo ls hl
  have hl : lv_has ls 2 [(0, .ref (gad G k0)), (1, .int a1)] := hl
  unfold f_X3_copyOf
  refine q_ob (fun hk0 => ?_)
  refine q_iload_n C dX3_copyOf_0 rfl (lv_at hl 1 rfl) ?_
  refine q_if_lt C 27 dX3_copyOf_1 (by decide) ?_ ?_
  · refine q_null C dX3_copyOf_27 ?_
    exact q_aretN C hr hlo dX3_copyOf_28
  · refine q_iload_n C dX3_copyOf_4 rfl (lv_at hl 1 rfl) ?_
    refine q_aload_n C dX3_copyOf_5 rfl (lv_at hl 0 rfl) ?_
    refine g_3_3 C hk0 kf_X3_64 dX3_copyOf_6 (fun v1 => ?_)
    refine q_icmp_ge C 27 dX3_copyOf_9 (by decide) ?_ ?_
    · refine q_null C dX3_copyOf_27 ?_
      exact q_aretN C hr hlo dX3_copyOf_28
    · refine q_iload_n C dX3_copyOf_12 rfl (lv_at hl 1 rfl) ?_
      refine q_bipush C dX3_copyOf_13 rfl (by decide) (fun v2 => ?_)
      refine q_icmp_ge C 27 dX3_copyOf_15 (by decide) ?_ ?_
      · refine q_null C dX3_copyOf_27 ?_
        exact q_aretN C hr hlo dX3_copyOf_28
      · refine q_aload_n C dX3_copyOf_18 rfl (lv_at hl 0 rfl) ?_
        refine g_3_14 C hk0 kf_X3_34 dX3_copyOf_19 ?_
        refine q_iload_n C dX3_copyOf_22 rfl (lv_at hl 1 rfl) ?_
        refine a_ald12 C (yk_3_14 hk0) (yl_3_14 hk0) dX3_copyOf_23 (fun h3 => ?_)
        refine q_goto C 28 dX3_copyOf_24 (by decide) ?_
        exact q_aret C hr hlo dX3_copyOf_28
def f_X6_holds (F : Nat) (a1 : Int) (a2 : Int) (σ : St) : Option (Int) :=
  
  z_gt (z_shr a1 a2) fun v1 =>
  z_gt 1 fun v2 =>
  z_gt (z_and v1 v2) fun v3 =>
  if v3 = 0 then (
    z_gt 0 fun v4 =>
    z_bo v4 <| some v4)
  else (
    z_gt 1 fun v5 =>
    z_bo v5 <| some v5)
theorem sb_X6_holds : SB yX6_holds cX6_holds 2 (some .boolean) 2 := ⟨ks_X6_holds, kn_X6, kc_X6_holds, by decide +kernel, by decide +kernel, by decide +kernel⟩
set_option maxRecDepth 20000 in
set_option maxHeartbeats 4000000 in
theorem m_X6_holds (l : Launch) (G : GG) (F : Nat) (a1 : Int32) (a2 : Int32) (σ : St) : ∀ r, f_X6_holds F a1.toInt a2.toInt σ = some r → MC G l yX6_holds cX6_holds 2 (some .boolean) { frames := 0, cells := 0, slots := 0, locals := 0 } [.int a1, .int a2] σ (vI r) σ := by
  refine MC_of (own := RX6) (vI) (fun _ => σ) (by decide +kernel) rfl (Nat.le_of_ble_eq_true rfl) ?_
  intro p e s m args below meth c C hr hlo ls hl
  have hl : lv_has ls 2 [(0, .int a1), (1, .int a2)] := hl
  unfold f_X6_holds
  refine q_iload_n C dX6_holds_0 rfl (lv_at hl 0 rfl) ?_
  refine q_iload_n C dX6_holds_1 rfl (lv_at hl 1 rfl) ?_
  refine q_ishr C dX6_holds_2 (fun v1 => ?_)
  refine q_iconst C dX6_holds_3 rfl (by decide) (fun v2 => ?_)
  refine q_iand C dX6_holds_4 (fun v3 => ?_)
  refine q_if_eq C 12 dX6_holds_5 (by decide) ?_ ?_
  · refine q_iconst C dX6_holds_12 rfl (by decide) (fun v4 => ?_)
    exact q_zret C hr hlo dX6_holds_13
  · refine q_iconst C dX6_holds_8 rfl (by decide) (fun v5 => ?_)
    refine q_goto C 13 dX6_holds_9 (by decide) ?_
    exact q_zret C hr hlo dX6_holds_13
def f_X3_keepHighest_L13 (F : Nat) (k0 : Nat) (a1 : Nat) (a2 : Int)   : Nat → Int → Int → St → Option (St)
  | 0, _, _, _ => none
  | n + 1, x5, x6, σ =>
    if x6 < 0 then (
      some σ)
    else (
      z_gt (σ a1 7) fun v7 =>
      if a2 ≤ v7 then (
        some σ)
      else (
        z_c1 (f_X6_holds F x5 x6 σ) fun v8 =>
        if v8 = 0 then (
          z_ck (x6 + (-1)) fun v9 =>
          f_X3_keepHighest_L13 F k0 a1 a2 n x5 v9 σ)
        else (
          z_c1 (f_X0_cellAt F (k0 + 1) x6 σ) fun v10 =>
          z_c1 (f_X1_keep F a1 x6 v10 σ) fun σ1 =>
          z_ck (x6 + (-1)) fun v11 =>
          f_X3_keepHighest_L13 F k0 a1 a2 n x5 v11 σ1)))

def f_X3_keepHighest (F : Nat) (k0 : Nat) (a1 : Nat) (a2 : Int) (σ : St) : Option (St) :=
  z_ob 3 k0 <| z_ob 1 a1 <| 
  z_c1 (f_X1_missing F a1 σ) fun v1 =>
  z_gt (σ k0 8) fun v2 =>
  z_gt 1 fun v3 =>
  z_ck (v2 - v3) fun v4 =>
  f_X3_keepHighest_L13 F k0 a1 a2 F v1 v4 σ
theorem cb_X3_keepHighest : CB yX3_keepHighest cX3_keepHighest 5 none 2 := ⟨ki_X3_keepHighest, kq_X3_keepHighest, kn_X3, kc_X3_keepHighest, by decide +kernel, by decide +kernel, by decide +kernel⟩
set_option maxRecDepth 20000 in
set_option maxHeartbeats 4000000 in
theorem m_X3_keepHighest (l : Launch) (G : GG) (F : Nat) (k0 : Nat) (a1 : Nat) (a2 : Int32) (σ : St) : ∀ r, f_X3_keepHighest F k0 a1 a2.toInt σ = some r → MC G l yX3_keepHighest cX3_keepHighest 5 none { frames := 1, cells := 0, slots := 0, locals := 22 } [.ref (gad G k0), .ref (gad G a1), .int a2] σ vV r := by
  refine MC_of (own := RX3) (fun _ => vV) (fun r => r) (by decide +kernel) rfl (Nat.le_of_ble_eq_true rfl) ?_
  intro p e s m args below meth c C hr hlo ls hl
  have hl : lv_has ls 5 [(0, .ref (gad G k0)), (1, .ref (gad G a1)), (2, .int a2)] := hl
  unfold f_X3_keepHighest
  refine q_ob (fun hk0 => ?_)
  refine q_ob (fun hk1 => ?_)
  have B13 : ∀ (n : Nat) (x5 : Int32) (x6 : Int32) (σ : St) (ls : Array Slot), lv_has ls 5 [(0, .ref (gad G k0)), (1, .ref (gad G a1)), (2, .int a2), (3, .int x5), (4, .int x6)] → Sim G (AG G) 0 0 p l e { frames := 1, cells := 0, slots := 0, locals := 22 } s m args below meth c (fun r : St => MQ below (QC G (vV) (r)) args s 0 0 (AG G)) σ (f_X3_keepHighest_L13 F k0 a1 a2.toInt   n x5.toInt x6.toInt σ) (F0 m 13 ls []) := by
    intro n
    induction n with
    | zero =>
      intro x5 x6 σ ls hl
      exact sim_none
    | succ n ih =>
      intro x5 x6 σ ls hl
      rw [f_X3_keepHighest_L13]
      refine q_iload C dX3_keepHighest_13 (lv_at hl 4 rfl) ?_
      refine q_if_lt C 56 dX3_keepHighest_15 (by decide) ?_ ?_
      · exact q_vretE C hr hlo dX3_keepHighest_56
      · refine q_aload_n C dX3_keepHighest_18 rfl (lv_at hl 1 rfl) ?_
        refine g_1_7 C hk1 kf_X3_160 dX3_keepHighest_19 (fun v7 => ?_)
        refine q_iload_n C dX3_keepHighest_22 rfl (lv_at hl 2 rfl) ?_
        refine q_icmp_ge C 56 dX3_keepHighest_23 (by decide) ?_ ?_
        · exact q_vretE C hr hlo dX3_keepHighest_56
        · refine q_iload_n C dX3_keepHighest_26 rfl (lv_at hl 3 rfl) ?_
          refine q_iload C dX3_keepHighest_27 (lv_at hl 4 rfl) ?_
          refine q_c1i C (fun r h => cr_SN (As := [.int x5, .int x6]) (rest := []) C (host := "CopyWhileRun") (m_X6_holds l G F x5 x6 σ r h) sb_X6_holds (List.mem_of_getElem? (i := 10) rfl) ⟨Nat.le_of_ble_eq_true rfl, Nat.le_of_ble_eq_true rfl⟩ ⟨Nat.zero_le _, Nat.zero_le _⟩ hl.1 rfl (Nat.le_of_ble_eq_true rfl) dX3_keepHighest_29 rfl) (fun v8 => ?_)
          refine q_if_eq C 50 dX3_keepHighest_32 (by decide) ?_ ?_
          · refine q_iinc (k := 4) C (fun v9 => [(4, .int v9), (0, .ref (gad G k0)), (1, .ref (gad G a1)), (2, .int a2), (3, .int x5)]) dX3_keepHighest_50 hl rfl (by decide) (by decide) (fun _ => rfl) (fun v9 ls hl => ?_)
            refine q_goto C 13 dX3_keepHighest_53 (by decide) ?_
            exact ih x5 v9 σ ls (lv_sub hl [1, 2, 3, 4, 0] rfl)
          · refine q_aload_n C dX3_keepHighest_35 rfl (lv_at hl 1 rfl) ?_
            refine q_iload C dX3_keepHighest_36 (lv_at hl 4 rfl) ?_
            refine q_aload_n C dX3_keepHighest_38 rfl (lv_at hl 0 rfl) ?_
            refine g_3_0 C hk0 kf_X3_12 dX3_keepHighest_39 ?_
            refine q_iload C dX3_keepHighest_42 (lv_at hl 4 rfl) ?_
            refine q_c1i C (fun r h => cr_V (As := [.int x6]) (rest := [.int x6, .ref (gad G a1)]) C (m_X0_cellAt l G F (k0 + 1) x6 σ r h) cb_X0_cellAt (yk_3_0 hk0) (by decide) rfl (cf_0 (yk_3_0 hk0) _) rfl kl_X3_167 ⟨Nat.le_of_ble_eq_true rfl, Nat.le_of_ble_eq_true rfl⟩ ⟨Nat.zero_le _, Nat.zero_le _⟩ hl.1 rfl (Nat.le_of_ble_eq_true rfl) dX3_keepHighest_44 rfl) (fun v10 => ?_)
            refine q_cv C (fun r h => cr_V (As := [.int x6, .int v10]) (rest := []) C (m_X1_keep l G F a1 x6 v10 σ r h) cb_X1_keep hk1 (by decide) rfl (cf_1 hk1 _) rfl kl_X3_170 ⟨Nat.le_of_ble_eq_true rfl, Nat.le_of_ble_eq_true rfl⟩ ⟨Nat.zero_le _, Nat.zero_le _⟩ hl.1 rfl (Nat.le_of_ble_eq_true rfl) dX3_keepHighest_47 rfl) (fun σ1 => ?_)
            refine q_iinc (k := 4) C (fun v11 => [(4, .int v11), (0, .ref (gad G k0)), (1, .ref (gad G a1)), (2, .int a2), (3, .int x5)]) dX3_keepHighest_50 hl rfl (by decide) (by decide) (fun _ => rfl) (fun v11 ls hl => ?_)
            refine q_goto C 13 dX3_keepHighest_53 (by decide) ?_
            exact ih x5 v11 σ1 ls (lv_sub hl [1, 2, 3, 4, 0] rfl)
  refine q_aload_n C dX3_keepHighest_0 rfl (lv_at hl 1 rfl) ?_
  refine q_c1i C (fun r h => cr_V (As := []) (rest := []) C (m_X1_missing l G F a1 σ r h) cb_X1_missing hk1 (by decide) rfl (cf_1 hk1 _) rfl kl_X3_149 ⟨Nat.le_of_ble_eq_true rfl, Nat.le_of_ble_eq_true rfl⟩ ⟨Nat.zero_le _, Nat.zero_le _⟩ hl.1 rfl (Nat.le_of_ble_eq_true rfl) dX3_keepHighest_1 rfl) (fun v1 => ?_)
  refine q_istore_n C [(3, .int v1), (0, .ref (gad G k0)), (1, .ref (gad G a1)), (2, .int a2)] dX3_keepHighest_4 rfl hl (by decide) rfl (fun ls hl => ?_)
  refine q_aload_n C dX3_keepHighest_5 rfl (lv_at hl 1 rfl) ?_
  refine g_3_8 C hk0 kf_X3_48 dX3_keepHighest_6 (fun v2 => ?_)
  refine q_iconst C dX3_keepHighest_9 rfl (by decide) (fun v3 => ?_)
  refine q_isub C dX3_keepHighest_10 (fun v4 => ?_)
  refine q_istore C [(4, .int v4), (3, .int v1), (0, .ref (gad G k0)), (1, .ref (gad G a1)), (2, .int a2)] dX3_keepHighest_11 hl (by decide) rfl (fun ls hl => ?_)
  exact B13 F v1 v4 σ ls (lv_sub hl [2, 3, 4, 1, 0] rfl)
def f_X3_keepLowest_L3 (F : Nat) (k0 : Nat) (a1 : Nat) (a2 : Int) (a3 : Int) (a4 : Nat)   : Nat → Int → St → Option (St)
  | 0, _, _ => none
  | n + 1, x2, σ =>
    z_gt (σ k0 8) fun v3 =>
    if v3 ≤ x2 then (
      some σ)
    else (
      if a2 = 0 then (
        some σ)
      else (
        z_gt (σ a1 7) fun v4 =>
        if a3 ≤ v4 then (
          some σ)
        else (
          z_c1 (f_X6_holds F a2 x2 σ) fun v5 =>
          if v5 = 0 then (
            z_ck (x2 + 1) fun v6 =>
            f_X3_keepLowest_L3 F k0 a1 a2 a3 a4 n v6 σ)
          else (
            z_c1 (f_X0_cellAt F a4 x2 σ) fun v7 =>
            z_c1 (f_X1_keep F a1 x2 v7 σ) fun σ1 =>
            z_ck (x2 + 1) fun v8 =>
            f_X3_keepLowest_L3 F k0 a1 a2 a3 a4 n v8 σ1))))

def f_X3_keepLowest (F : Nat) (k0 : Nat) (a1 : Nat) (a2 : Int) (a3 : Int) (a4 : Nat) (σ : St) : Option (St) :=
  z_ob 3 k0 <| z_ob 1 a1 <| z_ob 0 a4 <| 
  z_gt 0 fun v1 =>
  f_X3_keepLowest_L3 F k0 a1 a2 a3 a4 F v1 σ
theorem cb_X3_keepLowest : CB yX3_keepLowest cX3_keepLowest 6 none 4 := ⟨ki_X3_keepLowest, kq_X3_keepLowest, kn_X3, kc_X3_keepLowest, by decide +kernel, by decide +kernel, by decide +kernel⟩
set_option maxRecDepth 20000 in
set_option maxHeartbeats 4000000 in
theorem m_X3_keepLowest (l : Launch) (G : GG) (F : Nat) (k0 : Nat) (a1 : Nat) (a2 : Int32) (a3 : Int32) (a4 : Nat) (σ : St) : ∀ r, f_X3_keepLowest F k0 a1 a2.toInt a3.toInt a4 σ = some r → MC G l yX3_keepLowest cX3_keepLowest 6 none { frames := 1, cells := 0, slots := 0, locals := 22 } [.ref (gad G k0), .ref (gad G a1), .int a2, .int a3, .ref (gad G a4)] σ vV r := by
  refine MC_of (own := RX3) (fun _ => vV) (fun r => r) (by decide +kernel) rfl (Nat.le_of_ble_eq_true rfl) ?_
  intro p e s m args below meth c C hr hlo ls hl
  have hl : lv_has ls 6 [(0, .ref (gad G k0)), (1, .ref (gad G a1)), (2, .int a2), (3, .int a3), (4, .ref (gad G a4))] := hl
  unfold f_X3_keepLowest
  refine q_ob (fun hk0 => ?_)
  refine q_ob (fun hk1 => ?_)
  refine q_ob (fun hk4 => ?_)
  have B3 : ∀ (n : Nat) (x2 : Int32) (σ : St) (ls : Array Slot), lv_has ls 6 [(0, .ref (gad G k0)), (1, .ref (gad G a1)), (2, .int a2), (3, .int a3), (4, .ref (gad G a4)), (5, .int x2)] → Sim G (AG G) 0 0 p l e { frames := 1, cells := 0, slots := 0, locals := 22 } s m args below meth c (fun r : St => MQ below (QC G (vV) (r)) args s 0 0 (AG G)) σ (f_X3_keepLowest_L3 F k0 a1 a2.toInt a3.toInt a4   n x2.toInt σ) (F0 m 3 ls []) := by
    intro n
    induction n with
    | zero =>
      intro x2 σ ls hl
      exact sim_none
    | succ n ih =>
      intro x2 σ ls hl
      rw [f_X3_keepLowest_L3]
      refine q_iload C dX3_keepLowest_3 (lv_at hl 5 rfl) ?_
      refine q_aload_n C dX3_keepLowest_5 rfl (lv_at hl 0 rfl) ?_
      refine g_3_8 C hk0 kf_X3_48 dX3_keepLowest_6 (fun v3 => ?_)
      refine q_icmp_ge C 52 dX3_keepLowest_9 (by decide) ?_ ?_
      · exact q_vretE C hr hlo dX3_keepLowest_52
      · refine q_iload_n C dX3_keepLowest_12 rfl (lv_at hl 2 rfl) ?_
        refine q_if_eq C 52 dX3_keepLowest_13 (by decide) ?_ ?_
        · exact q_vretE C hr hlo dX3_keepLowest_52
        · refine q_aload_n C dX3_keepLowest_16 rfl (lv_at hl 1 rfl) ?_
          refine g_1_7 C hk1 kf_X3_160 dX3_keepLowest_17 (fun v4 => ?_)
          refine q_iload_n C dX3_keepLowest_20 rfl (lv_at hl 3 rfl) ?_
          refine q_icmp_ge C 52 dX3_keepLowest_21 (by decide) ?_ ?_
          · exact q_vretE C hr hlo dX3_keepLowest_52
          · refine q_iload_n C dX3_keepLowest_24 rfl (lv_at hl 2 rfl) ?_
            refine q_iload C dX3_keepLowest_25 (lv_at hl 5 rfl) ?_
            refine q_c1i C (fun r h => cr_SN (As := [.int a2, .int x2]) (rest := []) C (host := "CopyWhileRun") (m_X6_holds l G F a2 x2 σ r h) sb_X6_holds (List.mem_of_getElem? (i := 10) rfl) ⟨Nat.le_of_ble_eq_true rfl, Nat.le_of_ble_eq_true rfl⟩ ⟨Nat.zero_le _, Nat.zero_le _⟩ hl.1 rfl (Nat.le_of_ble_eq_true rfl) dX3_keepLowest_27 rfl) (fun v5 => ?_)
            refine q_if_eq C 46 dX3_keepLowest_30 (by decide) ?_ ?_
            · refine q_iinc (k := 5) C (fun v6 => [(5, .int v6), (0, .ref (gad G k0)), (1, .ref (gad G a1)), (2, .int a2), (3, .int a3), (4, .ref (gad G a4))]) dX3_keepLowest_46 hl rfl (by decide) (by decide) (fun _ => rfl) (fun v6 ls hl => ?_)
              refine q_goto C 3 dX3_keepLowest_49 (by decide) ?_
              exact ih v6 σ ls (lv_sub hl [1, 2, 3, 4, 5, 0] rfl)
            · refine q_aload_n C dX3_keepLowest_33 rfl (lv_at hl 1 rfl) ?_
              refine q_iload C dX3_keepLowest_34 (lv_at hl 5 rfl) ?_
              refine q_aload C dX3_keepLowest_36 (lv_at hl 4 rfl) ?_
              refine q_iload C dX3_keepLowest_38 (lv_at hl 5 rfl) ?_
              refine q_c1i C (fun r h => cr_V (As := [.int x2]) (rest := [.int x2, .ref (gad G a1)]) C (m_X0_cellAt l G F a4 x2 σ r h) cb_X0_cellAt hk4 (by decide) rfl (cf_0 hk4 _) rfl kl_X3_167 ⟨Nat.le_of_ble_eq_true rfl, Nat.le_of_ble_eq_true rfl⟩ ⟨Nat.zero_le _, Nat.zero_le _⟩ hl.1 rfl (Nat.le_of_ble_eq_true rfl) dX3_keepLowest_40 rfl) (fun v7 => ?_)
              refine q_cv C (fun r h => cr_V (As := [.int x2, .int v7]) (rest := []) C (m_X1_keep l G F a1 x2 v7 σ r h) cb_X1_keep hk1 (by decide) rfl (cf_1 hk1 _) rfl kl_X3_170 ⟨Nat.le_of_ble_eq_true rfl, Nat.le_of_ble_eq_true rfl⟩ ⟨Nat.zero_le _, Nat.zero_le _⟩ hl.1 rfl (Nat.le_of_ble_eq_true rfl) dX3_keepLowest_43 rfl) (fun σ1 => ?_)
              refine q_iinc (k := 5) C (fun v8 => [(5, .int v8), (0, .ref (gad G k0)), (1, .ref (gad G a1)), (2, .int a2), (3, .int a3), (4, .ref (gad G a4))]) dX3_keepLowest_46 hl rfl (by decide) (by decide) (fun _ => rfl) (fun v8 ls hl => ?_)
              refine q_goto C 3 dX3_keepLowest_49 (by decide) ?_
              exact ih v8 σ1 ls (lv_sub hl [1, 2, 3, 4, 5, 0] rfl)
  refine q_iconst C dX3_keepLowest_0 rfl (by decide) (fun v1 => ?_)
  refine q_istore C [(5, .int v1), (0, .ref (gad G k0)), (1, .ref (gad G a1)), (2, .int a2), (3, .int a3), (4, .ref (gad G a4))] dX3_keepLowest_1 hl (by decide) rfl (fun ls hl => ?_)
  exact B3 F v1 σ ls (lv_sub hl [1, 2, 3, 4, 5, 0] rfl)
def f_X3_keepNext_J120 (F : Nat) (k0 : Nat) (a1 : Int)   (x11 : Nat) (x12 : Int) (σ : St) : Option (St) :=
  z_c1 (f_X1_missing F x11 σ) fun v13 =>
  z_c1 (f_X3_keepLowest F k0 x11 v13 x12 (k0 + 1) σ) fun σ1 =>
  some σ1

def f_X3_keepNext_L59 (F : Nat) (k0 : Nat) (a1 : Int)   : Nat → Nat → Int → Int → St → Option (St)
  | 0, _, _, _, _ => none
  | n + 1, x22, x23, x24, σ =>
    if x24 < 0 then (
      f_X3_keepNext_J120 F k0 a1 x22 x23 σ)
    else (
      z_c1 (f_X1_missing F x22 σ) fun v25 =>
      z_ix x24 60 <| z_gt (σ (k0 + 6) x24) fun v26 =>
      z_gt (z_and v25 v26) fun v27 =>
      z_c1 (f_X3_keepLowest F k0 x22 v27 x23 (k0 + 1) σ) fun σ3 =>
      z_ck (x24 + (-1)) fun v28 =>
      f_X3_keepNext_L59 F k0 a1 n x22 x23 v28 σ3)

def f_X3_keepNext (F : Nat) (k0 : Nat) (a1 : Int) (σ : St) : Option (St) :=
  z_ob 3 k0 <| 
  z_gt (σ k0 4) fun v1 =>
  z_ca (f_X3_copyOf F k0 v1 σ) (
    some σ) fun k2 => z_ob 1 k2 <|
  z_gt (σ k2 7) fun v3 =>
  z_ck (v3 + a1) fun v4 =>
  z_gt (σ k0 9) fun v5 =>
  z_gt 1 fun v6 =>
  if ¬ v5 = v6 then (
    z_gt (σ k0 9) fun v7 =>
    z_gt 2 fun v8 =>
    if ¬ v7 = v8 then (
      z_gt (σ k0 9) fun v9 =>
      z_gt 3 fun v10 =>
      if ¬ v9 = v10 then (
        f_X3_keepNext_J120 F k0 a1 k2 v4 σ)
      else (
        z_c1 (f_X1_missing F k2 σ) fun v14 =>
        z_gt 1431655765 fun v15 =>
        z_gt (z_and v14 v15) fun v16 =>
        z_c1 (f_X3_keepLowest F k0 k2 v16 v4 (k0 + 1) σ) fun σ2 =>
        f_X3_keepNext_J120 F k0 a1 k2 v4 σ2))
    else (
      z_gt (σ k0 1) fun v17 =>
      z_gt 60 fun v18 =>
      z_gt (z_min v17 v18) fun v19 =>
      z_gt 1 fun v20 =>
      z_ck (v19 - v20) fun v21 =>
      f_X3_keepNext_L59 F k0 a1 F k2 v4 v21 σ))
  else (
    z_c1 (f_X3_keepHighest F k0 k2 v4 σ) fun σ4 =>
    f_X3_keepNext_J120 F k0 a1 k2 v4 σ4)
theorem cb_X3_keepNext : CB yX3_keepNext cX3_keepNext 5 none 1 := ⟨ki_X3_keepNext, kq_X3_keepNext, kn_X3, kc_X3_keepNext, by decide +kernel, by decide +kernel, by decide +kernel⟩
set_option maxRecDepth 20000 in
set_option maxHeartbeats 4000000 in
theorem m_X3_keepNext (l : Launch) (G : GG) (F : Nat) (k0 : Nat) (a1 : Int32) (σ : St) : ∀ r, f_X3_keepNext F k0 a1.toInt σ = some r → MC G l yX3_keepNext cX3_keepNext 5 none { frames := 2, cells := 0, slots := 0, locals := 47 } [.ref (gad G k0), .int a1] σ vV r := by
  refine MC_of (own := RX3) (fun _ => vV) (fun r => r) (by decide +kernel) rfl (Nat.le_of_ble_eq_true rfl) ?_
  intro p e s m args below meth c C hr hlo ls hl
  have hl : lv_has ls 5 [(0, .ref (gad G k0)), (1, .int a1)] := hl
  unfold f_X3_keepNext
  refine q_ob (fun hk0 => ?_)
  have B120 : ∀  (x11 : Nat) (x12 : Int32) (σ : St) (ls : Array Slot), lv_has ls 5 [(0, .ref (gad G k0)), (2, .ref (gad G x11)), (3, .int x12)] → kdX x11 = 1 → Sim G (AG G) 0 0 p l e { frames := 2, cells := 0, slots := 0, locals := 47 } s m args below meth c (fun r : St => MQ below (QC G (vV) (r)) args s 0 0 (AG G)) σ (f_X3_keepNext_J120 F k0 a1.toInt    x11 x12.toInt σ) (F0 m 120 ls []) := by
    intro x11 x12 σ ls hl hx11
    unfold f_X3_keepNext_J120
    refine q_aload_n C dX3_keepNext_120 rfl (lv_at hl 0 rfl) ?_
    refine q_aload_n C dX3_keepNext_121 rfl (lv_at hl 1 rfl) ?_
    refine q_aload_n C dX3_keepNext_122 rfl (lv_at hl 1 rfl) ?_
    refine q_c1i C (fun r h => cr_V (As := []) (rest := [.ref (gad G x11), .ref (gad G k0)]) C (m_X1_missing l G F x11 σ r h) cb_X1_missing hx11 (by decide) rfl (cf_1 hx11 _) rfl kl_X3_149 ⟨Nat.le_of_ble_eq_true rfl, Nat.le_of_ble_eq_true rfl⟩ ⟨Nat.zero_le _, Nat.zero_le _⟩ hl.1 rfl (Nat.le_of_ble_eq_true rfl) dX3_keepNext_123 rfl) (fun v13 => ?_)
    refine q_iload_n C dX3_keepNext_126 rfl (lv_at hl 2 rfl) ?_
    refine q_aload_n C dX3_keepNext_127 rfl (lv_at hl 0 rfl) ?_
    refine g_3_0 C hk0 kf_X3_12 dX3_keepNext_128 ?_
    refine q_cv C (fun r h => cr_V (As := [.ref (gad G x11), .int v13, .int x12, .ref (gad G (k0 + 1))]) (rest := []) C (m_X3_keepLowest l G F k0 x11 v13 x12 (k0 + 1) σ r h) cb_X3_keepLowest hk0 (by decide) rfl (cf_3 hk0 _) rfl kl_X3_155 ⟨Nat.le_of_ble_eq_true rfl, Nat.le_of_ble_eq_true rfl⟩ ⟨Nat.zero_le _, Nat.zero_le _⟩ hl.1 rfl (Nat.le_of_ble_eq_true rfl) dX3_keepNext_131 rfl) (fun σ1 => ?_)
    exact q_vretE C hr hlo dX3_keepNext_134
  have B59 : ∀ (n : Nat) (x22 : Nat) (x23 : Int32) (x24 : Int32) (σ : St) (ls : Array Slot), lv_has ls 5 [(0, .ref (gad G k0)), (2, .ref (gad G x22)), (3, .int x23), (4, .int x24)] → kdX x22 = 1 → Sim G (AG G) 0 0 p l e { frames := 2, cells := 0, slots := 0, locals := 47 } s m args below meth c (fun r : St => MQ below (QC G (vV) (r)) args s 0 0 (AG G)) σ (f_X3_keepNext_L59 F k0 a1.toInt   n x22 x23.toInt x24.toInt σ) (F0 m 59 ls []) := by
    intro n
    induction n with
    | zero =>
      intro x22 x23 x24 σ ls hl hx22
      exact sim_none
    | succ n ih =>
      intro x22 x23 x24 σ ls hl hx22
      rw [f_X3_keepNext_L59]
      refine q_iload C dX3_keepNext_59 (lv_at hl 3 rfl) ?_
      refine q_if_lt C 92 dX3_keepNext_61 (by decide) ?_ ?_
      · refine q_goto C 120 dX3_keepNext_92 (by decide) ?_
        exact B120 x22 x23 σ ls (lv_sub hl [0, 1, 2] rfl) hx22
      · refine q_aload_n C dX3_keepNext_64 rfl (lv_at hl 0 rfl) ?_
        refine q_aload_n C dX3_keepNext_65 rfl (lv_at hl 1 rfl) ?_
        refine q_aload_n C dX3_keepNext_66 rfl (lv_at hl 1 rfl) ?_
        refine q_c1i C (fun r h => cr_V (As := []) (rest := [.ref (gad G x22), .ref (gad G k0)]) C (m_X1_missing l G F x22 σ r h) cb_X1_missing hx22 (by decide) rfl (cf_1 hx22 _) rfl kl_X3_149 ⟨Nat.le_of_ble_eq_true rfl, Nat.le_of_ble_eq_true rfl⟩ ⟨Nat.zero_le _, Nat.zero_le _⟩ hl.1 rfl (Nat.le_of_ble_eq_true rfl) dX3_keepNext_67 rfl) (fun v25 => ?_)
        refine q_aload_n C dX3_keepNext_70 rfl (lv_at hl 0 rfl) ?_
        refine g_3_13 C hk0 kf_X3_29 dX3_keepNext_71 ?_
        refine q_iload C dX3_keepNext_74 (lv_at hl 3 rfl) ?_
        refine a_ild C (yk_3_13 hk0) (yl_3_13 hk0) dX3_keepNext_76 (fun v26 => ?_)
        refine q_iand C dX3_keepNext_77 (fun v27 => ?_)
        refine q_iload_n C dX3_keepNext_78 rfl (lv_at hl 2 rfl) ?_
        refine q_aload_n C dX3_keepNext_79 rfl (lv_at hl 0 rfl) ?_
        refine g_3_0 C hk0 kf_X3_12 dX3_keepNext_80 ?_
        refine q_cv C (fun r h => cr_V (As := [.ref (gad G x22), .int v27, .int x23, .ref (gad G (k0 + 1))]) (rest := []) C (m_X3_keepLowest l G F k0 x22 v27 x23 (k0 + 1) σ r h) cb_X3_keepLowest hk0 (by decide) rfl (cf_3 hk0 _) rfl kl_X3_155 ⟨Nat.le_of_ble_eq_true rfl, Nat.le_of_ble_eq_true rfl⟩ ⟨Nat.zero_le _, Nat.zero_le _⟩ hl.1 rfl (Nat.le_of_ble_eq_true rfl) dX3_keepNext_83 rfl) (fun σ3 => ?_)
        refine q_iinc (k := 3) C (fun v28 => [(4, .int v28), (0, .ref (gad G k0)), (2, .ref (gad G x22)), (3, .int x23)]) dX3_keepNext_86 hl rfl (by decide) (by decide) (fun _ => rfl) (fun v28 ls hl => ?_)
        refine q_goto C 59 dX3_keepNext_89 (by decide) ?_
        exact ih x22 x23 v28 σ3 ls (lv_sub hl [1, 2, 3, 0] rfl) hx22
  refine q_aload_n C dX3_keepNext_0 rfl (lv_at hl 0 rfl) ?_
  refine q_aload_n C dX3_keepNext_1 rfl (lv_at hl 0 rfl) ?_
  refine g_3_4 C hk0 kf_X3_18 dX3_keepNext_2 (fun v1 => ?_)
  refine q_ca C (fun r h => cr_V (As := [.int v1]) (rest := []) C (m_X3_copyOf l G F k0 v1 σ r h) cb_X3_copyOf hk0 (by decide) rfl (cf_3 hk0 _) rfl kl_X3_145 ⟨Nat.le_of_ble_eq_true rfl, Nat.le_of_ble_eq_true rfl⟩ ⟨Nat.zero_le _, Nat.zero_le _⟩ hl.1 rfl (Nat.le_of_ble_eq_true rfl) dX3_keepNext_5 rfl) ?_ (fun k2 => q_ob (fun hk2 => ?_))
  · refine q_astore_nN C [(2, .null), (0, .ref (gad G k0)), (1, .int a1)] dX3_keepNext_8 rfl hl (by decide) rfl (fun ls hl => ?_)
    refine q_aload_nN C dX3_keepNext_9 rfl (lv_at hl 0 rfl) ?_
    refine q_ifnonnullN C dX3_keepNext_10 ?_
    exact q_vretE C hr hlo dX3_keepNext_13
  · refine q_astore_n C [(2, .ref (gad G k2)), (0, .ref (gad G k0)), (1, .int a1)] dX3_keepNext_8 rfl hl (by decide) rfl (fun ls hl => ?_)
    refine q_aload_n C dX3_keepNext_9 rfl (lv_at hl 0 rfl) ?_
    refine q_ifnonnull C 14 dX3_keepNext_10 (by decide) ?_
    refine q_aload_n C dX3_keepNext_14 rfl (lv_at hl 0 rfl) ?_
    refine g_1_7 C hk2 kf_X3_160 dX3_keepNext_15 (fun v3 => ?_)
    refine q_iload_n C dX3_keepNext_18 rfl (lv_at hl 2 rfl) ?_
    refine q_iadd C dX3_keepNext_19 (fun v4 => ?_)
    refine q_istore_n C [(3, .int v4), (2, .ref (gad G k2)), (0, .ref (gad G k0)), (1, .int a1)] dX3_keepNext_20 rfl hl (by decide) rfl (fun ls hl => ?_)
    refine q_aload_n C dX3_keepNext_21 rfl (lv_at hl 2 rfl) ?_
    refine g_3_9 C hk0 kf_X3_51 dX3_keepNext_22 (fun v5 => ?_)
    refine q_iconst C dX3_keepNext_25 rfl (by decide) (fun v6 => ?_)
    refine q_icmp_ne C 38 dX3_keepNext_26 (by decide) ?_ ?_
    · refine q_aload_n C dX3_keepNext_38 rfl (lv_at hl 2 rfl) ?_
      refine g_3_9 C hk0 kf_X3_51 dX3_keepNext_39 (fun v7 => ?_)
      refine q_iconst C dX3_keepNext_42 rfl (by decide) (fun v8 => ?_)
      refine q_icmp_ne C 95 dX3_keepNext_43 (by decide) ?_ ?_
      · refine q_aload_n C dX3_keepNext_95 rfl (lv_at hl 2 rfl) ?_
        refine g_3_9 C hk0 kf_X3_51 dX3_keepNext_96 (fun v9 => ?_)
        refine q_iconst C dX3_keepNext_99 rfl (by decide) (fun v10 => ?_)
        refine q_icmp_ne C 120 dX3_keepNext_100 (by decide) ?_ ?_
        · exact B120 k2 v4 σ ls (lv_sub hl [2, 1, 0] rfl) hk2
        · refine q_aload_n C dX3_keepNext_103 rfl (lv_at hl 2 rfl) ?_
          refine q_aload_n C dX3_keepNext_104 rfl (lv_at hl 1 rfl) ?_
          refine q_aload_n C dX3_keepNext_105 rfl (lv_at hl 1 rfl) ?_
          refine q_c1i C (fun r h => cr_V (As := []) (rest := [.ref (gad G k2), .ref (gad G k0)]) C (m_X1_missing l G F k2 σ r h) cb_X1_missing hk2 (by decide) rfl (cf_1 hk2 _) rfl kl_X3_149 ⟨Nat.le_of_ble_eq_true rfl, Nat.le_of_ble_eq_true rfl⟩ ⟨Nat.zero_le _, Nat.zero_le _⟩ hl.1 rfl (Nat.le_of_ble_eq_true rfl) dX3_keepNext_106 rfl) (fun v14 => ?_)
          refine q_ldc C kk_X3_166 dX3_keepNext_109 (by decide) (fun v15 => ?_)
          refine q_iand C dX3_keepNext_111 (fun v16 => ?_)
          refine q_iload_n C dX3_keepNext_112 rfl (lv_at hl 0 rfl) ?_
          refine q_aload_n C dX3_keepNext_113 rfl (lv_at hl 2 rfl) ?_
          refine g_3_0 C hk0 kf_X3_12 dX3_keepNext_114 ?_
          refine q_cv C (fun r h => cr_V (As := [.ref (gad G k2), .int v16, .int v4, .ref (gad G (k0 + 1))]) (rest := []) C (m_X3_keepLowest l G F k0 k2 v16 v4 (k0 + 1) σ r h) cb_X3_keepLowest hk0 (by decide) rfl (cf_3 hk0 _) rfl kl_X3_155 ⟨Nat.le_of_ble_eq_true rfl, Nat.le_of_ble_eq_true rfl⟩ ⟨Nat.zero_le _, Nat.zero_le _⟩ hl.1 rfl (Nat.le_of_ble_eq_true rfl) dX3_keepNext_117 rfl) (fun σ2 => ?_)
          exact B120 k2 v4 σ2 ls (lv_sub hl [2, 1, 0] rfl) hk2
      · refine q_aload_n C dX3_keepNext_46 rfl (lv_at hl 2 rfl) ?_
        refine g_3_1 C hk0 kf_X3_58 dX3_keepNext_47 (fun v17 => ?_)
        refine q_bipush C dX3_keepNext_50 rfl (by decide) (fun v18 => ?_)
        refine q_min C kl_X3_39 ⟨Nat.le_of_ble_eq_true rfl, Nat.le_of_ble_eq_true rfl⟩ ⟨Nat.zero_le _, Nat.zero_le _⟩ hl.1 dX3_keepNext_52 (fun v19 => ?_)
        refine q_iconst C dX3_keepNext_55 rfl (by decide) (fun v20 => ?_)
        refine q_isub C dX3_keepNext_56 (fun v21 => ?_)
        refine q_istore C [(4, .int v21), (3, .int v4), (2, .ref (gad G k2)), (0, .ref (gad G k0)), (1, .int a1)] dX3_keepNext_57 hl (by decide) rfl (fun ls hl => ?_)
        exact B59 F k2 v4 v21 σ ls (lv_sub hl [3, 2, 1, 0] rfl) hk2
    · refine q_aload_n C dX3_keepNext_29 rfl (lv_at hl 2 rfl) ?_
      refine q_aload_n C dX3_keepNext_30 rfl (lv_at hl 1 rfl) ?_
      refine q_iload_n C dX3_keepNext_31 rfl (lv_at hl 0 rfl) ?_
      refine q_cv C (fun r h => cr_V (As := [.ref (gad G k2), .int v4]) (rest := []) C (m_X3_keepHighest l G F k0 k2 v4 σ r h) cb_X3_keepHighest hk0 (by decide) rfl (cf_3 hk0 _) rfl kl_X3_162 ⟨Nat.le_of_ble_eq_true rfl, Nat.le_of_ble_eq_true rfl⟩ ⟨Nat.zero_le _, Nat.zero_le _⟩ hl.1 rfl (Nat.le_of_ble_eq_true rfl) dX3_keepNext_32 rfl) (fun σ4 => ?_)
      refine q_goto C 120 dX3_keepNext_35 (by decide) ?_
      exact B120 k2 v4 σ4 ls (lv_sub hl [2, 1, 0] rfl) hk2
def f_X3_endOpen (F : Nat) (k0 : Nat) (a1 : Int) (a2 : Int) (σ : St) : Option (St) :=
  z_ob 3 k0 <| 
  z_gt (σ k0 4) fun v1 =>
  z_ca (f_X3_copyOf F k0 v1 σ) (
    z_gt (-1) fun v3 =>
    z_sg (z_up σ k0 4 v3) fun σ1 =>
    some σ1) fun k2 => z_ob 1 k2 <|
  z_c1 (f_X1_finishAs F k2 a1 a2 σ) fun σ2 =>
  z_gt (-1) fun v4 =>
  z_sg (z_up σ2 k0 4 v4) fun σ3 =>
  some σ3
theorem cb_X3_endOpen : CB yX3_endOpen cX3_endOpen 4 none 2 := ⟨ki_X3_endOpen, kq_X3_endOpen, kn_X3, kc_X3_endOpen, by decide +kernel, by decide +kernel, by decide +kernel⟩
set_option maxRecDepth 20000 in
set_option maxHeartbeats 4000000 in
theorem m_X3_endOpen (l : Launch) (G : GG) (F : Nat) (k0 : Nat) (a1 : Int32) (a2 : Int32) (σ : St) : ∀ r, f_X3_endOpen F k0 a1.toInt a2.toInt σ = some r → MC G l yX3_endOpen cX3_endOpen 4 none { frames := 1, cells := 0, slots := 0, locals := 22 } [.ref (gad G k0), .int a1, .int a2] σ vV r := by
  refine MC_of (own := RX3) (fun _ => vV) (fun r => r) (by decide +kernel) rfl (Nat.le_of_ble_eq_true rfl) ?_
  intro p e s m args below meth c C hr hlo ls hl
  have hl : lv_has ls 4 [(0, .ref (gad G k0)), (1, .int a1), (2, .int a2)] := hl
  unfold f_X3_endOpen
  refine q_ob (fun hk0 => ?_)
  refine q_aload_n C dX3_endOpen_0 rfl (lv_at hl 0 rfl) ?_
  refine q_aload_n C dX3_endOpen_1 rfl (lv_at hl 0 rfl) ?_
  refine g_3_4 C hk0 kf_X3_18 dX3_endOpen_2 (fun v1 => ?_)
  refine q_ca C (fun r h => cr_V (As := [.int v1]) (rest := []) C (m_X3_copyOf l G F k0 v1 σ r h) cb_X3_copyOf hk0 (by decide) rfl (cf_3 hk0 _) rfl kl_X3_145 ⟨Nat.le_of_ble_eq_true rfl, Nat.le_of_ble_eq_true rfl⟩ ⟨Nat.zero_le _, Nat.zero_le _⟩ hl.1 rfl (Nat.le_of_ble_eq_true rfl) dX3_endOpen_5 rfl) ?_ (fun k2 => q_ob (fun hk2 => ?_))
  · refine q_astore_nN C [(3, .null), (0, .ref (gad G k0)), (1, .int a1), (2, .int a2)] dX3_endOpen_8 rfl hl (by decide) rfl (fun ls hl => ?_)
    refine q_aload_nN C dX3_endOpen_9 rfl (lv_at hl 0 rfl) ?_
    refine q_ifnullN C 19 dX3_endOpen_10 (by decide) ?_
    refine q_aload_n C dX3_endOpen_19 rfl (lv_at hl 1 rfl) ?_
    refine q_iconst C dX3_endOpen_20 rfl (by decide) (fun v3 => ?_)
    refine p_3_4 C hk0 kf_X3_18 dX3_endOpen_21 (q_sg (fun σ1 => ?_))
    exact q_vretE C hr hlo dX3_endOpen_24
  · refine q_astore_n C [(3, .ref (gad G k2)), (0, .ref (gad G k0)), (1, .int a1), (2, .int a2)] dX3_endOpen_8 rfl hl (by decide) rfl (fun ls hl => ?_)
    refine q_aload_n C dX3_endOpen_9 rfl (lv_at hl 0 rfl) ?_
    refine q_ifnull C dX3_endOpen_10 ?_
    refine q_aload_n C dX3_endOpen_13 rfl (lv_at hl 0 rfl) ?_
    refine q_iload_n C dX3_endOpen_14 rfl (lv_at hl 2 rfl) ?_
    refine q_iload_n C dX3_endOpen_15 rfl (lv_at hl 3 rfl) ?_
    refine q_cv C (fun r h => cr_V (As := [.int a1, .int a2]) (rest := []) C (m_X1_finishAs l G F k2 a1 a2 σ r h) cb_X1_finishAs hk2 (by decide) rfl (cf_1 hk2 _) rfl kl_X3_176 ⟨Nat.le_of_ble_eq_true rfl, Nat.le_of_ble_eq_true rfl⟩ ⟨Nat.zero_le _, Nat.zero_le _⟩ hl.1 rfl (Nat.le_of_ble_eq_true rfl) dX3_endOpen_16 rfl) (fun σ2 => ?_)
    refine q_aload_n C dX3_endOpen_19 rfl (lv_at hl 1 rfl) ?_
    refine q_iconst C dX3_endOpen_20 rfl (by decide) (fun v4 => ?_)
    refine p_3_4 C hk0 kf_X3_18 dX3_endOpen_21 (q_sg (fun σ3 => ?_))
    exact q_vretE C hr hlo dX3_endOpen_24
def f_X3_finishWhole_L21 (F : Nat) (k0 : Nat) (a1 : Int)   : Nat → Nat → Int → St → Option (St)
  | 0, _, _, _ => none
  | n + 1, x5, x6, σ =>
    z_gt (σ k0 8) fun v7 =>
    if v7 ≤ x6 then (
      z_gt 1 fun v8 =>
      z_bo v8 <| z_sg (z_up σ k0 10 v8) fun σ2 =>
      z_gt 1 fun v9 =>
      z_c1 (f_X3_endOpen F k0 v9 a1 σ2) fun σ3 =>
      some σ3)
    else (
      z_ix x6 32 <| z_gt (σ (k0 + 5) x6) fun v10 =>
      z_gt (σ x5 1) fun v11 =>
      if v10 < v11 then (
        z_ck (x6 + 1) fun v12 =>
        f_X3_finishWhole_L21 F k0 a1 n x5 v12 σ)
      else (
        z_gt (σ k0 2) fun v13 =>
        z_gt 1 fun v14 =>
        z_gt (z_shl v14 x6) fun v15 =>
        z_gt (z_or v13 v15) fun v16 =>
        z_sg (z_up σ k0 2 v16) fun σ4 =>
        z_ck (x6 + 1) fun v17 =>
        f_X3_finishWhole_L21 F k0 a1 n x5 v17 σ4))

def f_X3_finishWhole (F : Nat) (k0 : Nat) (a1 : Int) (σ : St) : Option (St) :=
  z_ob 3 k0 <| 
  z_gt (σ k0 4) fun v1 =>
  z_ca (f_X3_copyOf F k0 v1 σ) (
    some σ) fun k2 => z_ob 1 k2 <|
  z_gt 0 fun v3 =>
  z_sg (z_up σ k0 2 v3) fun σ1 =>
  z_gt 0 fun v4 =>
  f_X3_finishWhole_L21 F k0 a1 F k2 v4 σ1
theorem cb_X3_finishWhole : CB yX3_finishWhole cX3_finishWhole 4 none 1 := ⟨ki_X3_finishWhole, kq_X3_finishWhole, kn_X3, kc_X3_finishWhole, by decide +kernel, by decide +kernel, by decide +kernel⟩
set_option maxRecDepth 20000 in
set_option maxHeartbeats 4000000 in
theorem m_X3_finishWhole (l : Launch) (G : GG) (F : Nat) (k0 : Nat) (a1 : Int32) (σ : St) : ∀ r, f_X3_finishWhole F k0 a1.toInt σ = some r → MC G l yX3_finishWhole cX3_finishWhole 4 none { frames := 2, cells := 0, slots := 0, locals := 45 } [.ref (gad G k0), .int a1] σ vV r := by
  refine MC_of (own := RX3) (fun _ => vV) (fun r => r) (by decide +kernel) rfl (Nat.le_of_ble_eq_true rfl) ?_
  intro p e s m args below meth c C hr hlo ls hl
  have hl : lv_has ls 4 [(0, .ref (gad G k0)), (1, .int a1)] := hl
  unfold f_X3_finishWhole
  refine q_ob (fun hk0 => ?_)
  have B21 : ∀ (n : Nat) (x5 : Nat) (x6 : Int32) (σ : St) (ls : Array Slot), lv_has ls 4 [(0, .ref (gad G k0)), (1, .int a1), (2, .ref (gad G x5)), (3, .int x6)] → kdX x5 = 1 → Sim G (AG G) 0 0 p l e { frames := 2, cells := 0, slots := 0, locals := 45 } s m args below meth c (fun r : St => MQ below (QC G (vV) (r)) args s 0 0 (AG G)) σ (f_X3_finishWhole_L21 F k0 a1.toInt   n x5 x6.toInt σ) (F0 m 21 ls []) := by
    intro n
    induction n with
    | zero =>
      intro x5 x6 σ ls hl hx5
      exact sim_none
    | succ n ih =>
      intro x5 x6 σ ls hl hx5
      rw [f_X3_finishWhole_L21]
      refine q_iload_n C dX3_finishWhole_21 rfl (lv_at hl 3 rfl) ?_
      refine q_aload_n C dX3_finishWhole_22 rfl (lv_at hl 0 rfl) ?_
      refine g_3_8 C hk0 kf_X3_48 dX3_finishWhole_23 (fun v7 => ?_)
      refine q_icmp_ge C 60 dX3_finishWhole_26 (by decide) ?_ ?_
      · refine q_aload_n C dX3_finishWhole_60 rfl (lv_at hl 0 rfl) ?_
        refine q_iconst C dX3_finishWhole_61 rfl (by decide) (fun v8 => ?_)
        refine p_3_10 C hk0 kf_X3_67 dX3_finishWhole_62 (q_sg (fun σ2 => ?_))
        refine q_aload_n C dX3_finishWhole_65 rfl (lv_at hl 0 rfl) ?_
        refine q_iconst C dX3_finishWhole_66 rfl (by decide) (fun v9 => ?_)
        refine q_iload_n C dX3_finishWhole_67 rfl (lv_at hl 1 rfl) ?_
        refine q_cv C (fun r h => cr_V (As := [.int v9, .int a1]) (rest := []) C (m_X3_endOpen l G F k0 v9 a1 σ2 r h) cb_X3_endOpen hk0 (by decide) rfl (cf_3 hk0 _) rfl kl_X3_127 ⟨Nat.le_of_ble_eq_true rfl, Nat.le_of_ble_eq_true rfl⟩ ⟨Nat.zero_le _, Nat.zero_le _⟩ hl.1 rfl (Nat.le_of_ble_eq_true rfl) dX3_finishWhole_68 rfl) (fun σ3 => ?_)
        exact q_vretE C hr hlo dX3_finishWhole_71
      · refine q_aload_n C dX3_finishWhole_29 rfl (lv_at hl 0 rfl) ?_
        refine g_3_12 C hk0 kf_X3_25 dX3_finishWhole_30 ?_
        refine q_iload_n C dX3_finishWhole_33 rfl (lv_at hl 3 rfl) ?_
        refine a_ild C (yk_3_12 hk0) (yl_3_12 hk0) dX3_finishWhole_34 (fun v10 => ?_)
        refine q_aload_n C dX3_finishWhole_35 rfl (lv_at hl 2 rfl) ?_
        refine g_1_1 C hx5 kf_X3_173 dX3_finishWhole_36 (fun v11 => ?_)
        refine q_icmp_lt C 54 dX3_finishWhole_39 (by decide) ?_ ?_
        · refine q_iinc (k := 3) C (fun v12 => [(3, .int v12), (0, .ref (gad G k0)), (1, .int a1), (2, .ref (gad G x5))]) dX3_finishWhole_54 hl rfl (by decide) (by decide) (fun _ => rfl) (fun v12 ls hl => ?_)
          refine q_goto C 21 dX3_finishWhole_57 (by decide) ?_
          exact ih x5 v12 σ ls (lv_sub hl [1, 2, 3, 0] rfl) hx5
        · refine q_aload_n C dX3_finishWhole_42 rfl (lv_at hl 0 rfl) ?_
          refine q_dup C dX3_finishWhole_43 rfl ?_
          refine g_3_2 C hk0 kf_X3_61 dX3_finishWhole_44 (fun v13 => ?_)
          refine q_iconst C dX3_finishWhole_47 rfl (by decide) (fun v14 => ?_)
          refine q_iload_n C dX3_finishWhole_48 rfl (lv_at hl 3 rfl) ?_
          refine q_ishl C dX3_finishWhole_49 (fun v15 => ?_)
          refine q_ior C dX3_finishWhole_50 (fun v16 => ?_)
          refine p_3_2 C hk0 kf_X3_61 dX3_finishWhole_51 (q_sg (fun σ4 => ?_))
          refine q_iinc (k := 3) C (fun v17 => [(3, .int v17), (0, .ref (gad G k0)), (1, .int a1), (2, .ref (gad G x5))]) dX3_finishWhole_54 hl rfl (by decide) (by decide) (fun _ => rfl) (fun v17 ls hl => ?_)
          refine q_goto C 21 dX3_finishWhole_57 (by decide) ?_
          exact ih x5 v17 σ4 ls (lv_sub hl [1, 2, 3, 0] rfl) hx5
  refine q_aload_n C dX3_finishWhole_0 rfl (lv_at hl 0 rfl) ?_
  refine q_aload_n C dX3_finishWhole_1 rfl (lv_at hl 0 rfl) ?_
  refine g_3_4 C hk0 kf_X3_18 dX3_finishWhole_2 (fun v1 => ?_)
  refine q_ca C (fun r h => cr_V (As := [.int v1]) (rest := []) C (m_X3_copyOf l G F k0 v1 σ r h) cb_X3_copyOf hk0 (by decide) rfl (cf_3 hk0 _) rfl kl_X3_145 ⟨Nat.le_of_ble_eq_true rfl, Nat.le_of_ble_eq_true rfl⟩ ⟨Nat.zero_le _, Nat.zero_le _⟩ hl.1 rfl (Nat.le_of_ble_eq_true rfl) dX3_finishWhole_5 rfl) ?_ (fun k2 => q_ob (fun hk2 => ?_))
  · refine q_astore_nN C [(2, .null), (0, .ref (gad G k0)), (1, .int a1)] dX3_finishWhole_8 rfl hl (by decide) rfl (fun ls hl => ?_)
    refine q_aload_nN C dX3_finishWhole_9 rfl (lv_at hl 0 rfl) ?_
    refine q_ifnonnullN C dX3_finishWhole_10 ?_
    exact q_vretE C hr hlo dX3_finishWhole_13
  · refine q_astore_n C [(2, .ref (gad G k2)), (0, .ref (gad G k0)), (1, .int a1)] dX3_finishWhole_8 rfl hl (by decide) rfl (fun ls hl => ?_)
    refine q_aload_n C dX3_finishWhole_9 rfl (lv_at hl 0 rfl) ?_
    refine q_ifnonnull C 14 dX3_finishWhole_10 (by decide) ?_
    refine q_aload_n C dX3_finishWhole_14 rfl (lv_at hl 1 rfl) ?_
    refine q_iconst C dX3_finishWhole_15 rfl (by decide) (fun v3 => ?_)
    refine p_3_2 C hk0 kf_X3_61 dX3_finishWhole_16 (q_sg (fun σ1 => ?_))
    refine q_iconst C dX3_finishWhole_19 rfl (by decide) (fun v4 => ?_)
    refine q_istore_n C [(3, .int v4), (2, .ref (gad G k2)), (0, .ref (gad G k0)), (1, .int a1)] dX3_finishWhole_20 rfl hl (by decide) rfl (fun ls hl => ?_)
    exact B21 F k2 v4 σ1 ls (lv_sub hl [2, 3, 1, 0] rfl) hk2
def f_X3_command_L67 (F : Nat) (k0 : Nat) (a1 : Nat) (a2 : Int)   : Nat → Int → St → Option (St)
  | 0, _, _ => none
  | n + 1, x9, σ =>
    z_gt (σ k0 8) fun v10 =>
    if v10 ≤ x9 then (
      z_gt (σ k0 4) fun v11 =>
      z_ca (f_X3_copyOf F k0 v11 σ) (
        some σ) fun k12 => z_ob 1 k12 <|
      z_gt (σ k0 6) fun v13 =>
      z_c1 (f_X1_missing F k12 σ) fun v14 =>
      z_gt (z_and v13 v14) fun v15 =>
      z_sg (z_up σ k0 7 v15) fun σ6 =>
      z_gt (σ6 k12 6) fun v16 =>
      z_gt (σ6 k0 7) fun v17 =>
      z_gt (z_or v16 v17) fun v18 =>
      z_sg (z_up σ6 k12 6 v18) fun σ7 =>
      z_gt (σ7 k0 7) fun v19 =>
      z_gt 32 fun v20 =>
      z_c1 (f_X3_keepLowest F k0 k12 v19 v20 (k0 + 3) σ7) fun σ8 =>
      some σ8)
    else (
      z_gt (σ k0 6) fun v21 =>
      z_c1 (f_X6_holds F v21 x9 σ) fun v22 =>
      if v22 = 0 then (
        z_ck (x9 + 1) fun v23 =>
        f_X3_command_L67 F k0 a1 a2 n v23 σ)
      else (
        z_ix x9 32 <| z_sg (z_up σ (k0 + 5) x9 a2) fun σ9 =>
        z_ck (x9 + 1) fun v24 =>
        f_X3_command_L67 F k0 a1 a2 n v24 σ9))

def f_X3_command (F : Nat) (k0 : Nat) (a1 : Nat) (a2 : Int) (σ : St) : Option (St) :=
  z_ob 3 k0 <| z_ob 4 a1 <| 
  z_c1 (f_X0_becomeCells F (k0 + 3) (k0 + 1) σ) fun σ1 =>
  z_c2 (f_X0_apply F (k0 + 1) a1 a2 σ1) fun v1 σ2 =>
  z_sg (z_up σ2 k0 6 v1) fun σ3 =>
  z_gt (σ3 k0 6) fun v2 =>
  if v2 = 0 then (
    some σ3)
  else (
    if a2 < 0 then (
      some σ3)
    else (
      z_gt 60 fun v3 =>
      if a2 < v3 then (
        z_gt (σ3 k0 6) fun v4 =>
        z_ix a2 60 <| z_sg (z_up σ3 (k0 + 6) a2 v4) fun σ4 =>
        z_gt (σ4 k0 2) fun v5 =>
        z_gt (σ4 k0 6) fun v6 =>
        z_gt (z_or v5 v6) fun v7 =>
        z_sg (z_up σ4 k0 2 v7) fun σ5 =>
        z_gt 0 fun v8 =>
        f_X3_command_L67 F k0 a1 a2 F v8 σ5)
      else (
        some σ3)))
theorem cb_X3_command : CB yX3_command cX3_command 4 none 2 := ⟨ki_X3_command, kq_X3_command, kn_X3, kc_X3_command, by decide +kernel, by decide +kernel, by decide +kernel⟩
set_option maxRecDepth 20000 in
set_option maxHeartbeats 4000000 in
theorem m_X3_command (l : Launch) (G : GG) (F : Nat) (k0 : Nat) (a1 : Nat) (a2 : Int32) (σ : St) : ∀ r, f_X3_command F k0 a1 a2.toInt σ = some r → MC G l yX3_command cX3_command 4 none { frames := 2, cells := 0, slots := 0, locals := 66 } [.ref (gad G k0), .ref (gad G a1), .int a2] σ vV r := by
  refine MC_of (own := RX3) (fun _ => vV) (fun r => r) (by decide +kernel) rfl (Nat.le_of_ble_eq_true rfl) ?_
  intro p e s m args below meth c C hr hlo ls hl
  have hl : lv_has ls 4 [(0, .ref (gad G k0)), (1, .ref (gad G a1)), (2, .int a2)] := hl
  unfold f_X3_command
  refine q_ob (fun hk0 => ?_)
  refine q_ob (fun hk1 => ?_)
  have B67 : ∀ (n : Nat) (x9 : Int32) (σ : St) (ls : Array Slot), lv_has ls 4 [(0, .ref (gad G k0)), (2, .int a2), (3, .int x9)] → Sim G (AG G) 0 0 p l e { frames := 2, cells := 0, slots := 0, locals := 66 } s m args below meth c (fun r : St => MQ below (QC G (vV) (r)) args s 0 0 (AG G)) σ (f_X3_command_L67 F k0 a1 a2.toInt   n x9.toInt σ) (F0 m 67 ls []) := by
    intro n
    induction n with
    | zero =>
      intro x9 σ ls hl
      exact sim_none
    | succ n ih =>
      intro x9 σ ls hl
      rw [f_X3_command_L67]
      refine q_iload_n C dX3_command_67 rfl (lv_at hl 2 rfl) ?_
      refine q_aload_n C dX3_command_68 rfl (lv_at hl 0 rfl) ?_
      refine g_3_8 C hk0 kf_X3_48 dX3_command_69 (fun v10 => ?_)
      refine q_icmp_ge C 99 dX3_command_72 (by decide) ?_ ?_
      · refine q_aload_n C dX3_command_99 rfl (lv_at hl 0 rfl) ?_
        refine q_aload_n C dX3_command_100 rfl (lv_at hl 0 rfl) ?_
        refine g_3_4 C hk0 kf_X3_18 dX3_command_101 (fun v11 => ?_)
        refine q_ca C (fun r h => cr_V (As := [.int v11]) (rest := []) C (m_X3_copyOf l G F k0 v11 σ r h) cb_X3_copyOf hk0 (by decide) rfl (cf_3 hk0 _) rfl kl_X3_145 ⟨Nat.le_of_ble_eq_true rfl, Nat.le_of_ble_eq_true rfl⟩ ⟨Nat.zero_le _, Nat.zero_le _⟩ hl.1 rfl (Nat.le_of_ble_eq_true rfl) dX3_command_104 rfl) ?_ (fun k12 => q_ob (fun hk12 => ?_))
        · refine q_astore_nN C [(3, .null), (0, .ref (gad G k0)), (2, .int a2)] dX3_command_107 rfl hl (by decide) rfl (fun ls hl => ?_)
          refine q_aload_nN C dX3_command_108 rfl (lv_at hl 0 rfl) ?_
          refine q_ifnullN C 153 dX3_command_109 (by decide) ?_
          exact q_vretE C hr hlo dX3_command_153
        · refine q_astore_n C [(3, .ref (gad G k12)), (0, .ref (gad G k0)), (2, .int a2)] dX3_command_107 rfl hl (by decide) rfl (fun ls hl => ?_)
          refine q_aload_n C dX3_command_108 rfl (lv_at hl 0 rfl) ?_
          refine q_ifnull C dX3_command_109 ?_
          refine q_aload_n C dX3_command_112 rfl (lv_at hl 1 rfl) ?_
          refine q_aload_n C dX3_command_113 rfl (lv_at hl 1 rfl) ?_
          refine g_3_6 C hk0 kf_X3_74 dX3_command_114 (fun v13 => ?_)
          refine q_aload_n C dX3_command_117 rfl (lv_at hl 0 rfl) ?_
          refine q_c1i C (fun r h => cr_V (As := []) (rest := [.int v13, .ref (gad G k0)]) C (m_X1_missing l G F k12 σ r h) cb_X1_missing hk12 (by decide) rfl (cf_1 hk12 _) rfl kl_X3_149 ⟨Nat.le_of_ble_eq_true rfl, Nat.le_of_ble_eq_true rfl⟩ ⟨Nat.zero_le _, Nat.zero_le _⟩ hl.1 rfl (Nat.le_of_ble_eq_true rfl) dX3_command_118 rfl) (fun v14 => ?_)
          refine q_iand C dX3_command_121 (fun v15 => ?_)
          refine p_3_7 C hk0 kf_X3_77 dX3_command_122 (q_sg (fun σ6 => ?_))
          refine q_aload_n C dX3_command_125 rfl (lv_at hl 0 rfl) ?_
          refine q_dup C dX3_command_126 rfl ?_
          refine g_1_6 C hk12 kf_X3_152 dX3_command_127 (fun v16 => ?_)
          refine q_aload_n C dX3_command_130 rfl (lv_at hl 1 rfl) ?_
          refine g_3_7 C hk0 kf_X3_77 dX3_command_131 (fun v17 => ?_)
          refine q_ior C dX3_command_134 (fun v18 => ?_)
          refine p_1_6 C hk12 kf_X3_152 dX3_command_135 (q_sg (fun σ7 => ?_))
          refine q_aload_n C dX3_command_138 rfl (lv_at hl 1 rfl) ?_
          refine q_aload_n C dX3_command_139 rfl (lv_at hl 0 rfl) ?_
          refine q_aload_n C dX3_command_140 rfl (lv_at hl 1 rfl) ?_
          refine g_3_7 C hk0 kf_X3_77 dX3_command_141 (fun v19 => ?_)
          refine q_bipush C dX3_command_144 rfl (by decide) (fun v20 => ?_)
          refine q_aload_n C dX3_command_146 rfl (lv_at hl 1 rfl) ?_
          refine g_3_11 C hk0 kf_X3_22 dX3_command_147 ?_
          refine q_cv C (fun r h => cr_V (As := [.ref (gad G k12), .int v19, .int v20, .ref (gad G (k0 + 3))]) (rest := []) C (m_X3_keepLowest l G F k0 k12 v19 v20 (k0 + 3) σ7 r h) cb_X3_keepLowest hk0 (by decide) rfl (cf_3 hk0 _) rfl kl_X3_155 ⟨Nat.le_of_ble_eq_true rfl, Nat.le_of_ble_eq_true rfl⟩ ⟨Nat.zero_le _, Nat.zero_le _⟩ hl.1 rfl (Nat.le_of_ble_eq_true rfl) dX3_command_150 rfl) (fun σ8 => ?_)
          exact q_vretE C hr hlo dX3_command_153
      · refine q_aload_n C dX3_command_75 rfl (lv_at hl 0 rfl) ?_
        refine g_3_6 C hk0 kf_X3_74 dX3_command_76 (fun v21 => ?_)
        refine q_iload_n C dX3_command_79 rfl (lv_at hl 2 rfl) ?_
        refine q_c1i C (fun r h => cr_SN (As := [.int v21, .int x9]) (rest := []) C (host := "CopyWhileRun") (m_X6_holds l G F v21 x9 σ r h) sb_X6_holds (List.mem_of_getElem? (i := 10) rfl) ⟨Nat.le_of_ble_eq_true rfl, Nat.le_of_ble_eq_true rfl⟩ ⟨Nat.zero_le _, Nat.zero_le _⟩ hl.1 rfl (Nat.le_of_ble_eq_true rfl) dX3_command_80 rfl) (fun v22 => ?_)
        refine q_if_eq C 93 dX3_command_83 (by decide) ?_ ?_
        · refine q_iinc (k := 2) C (fun v23 => [(3, .int v23), (0, .ref (gad G k0)), (2, .int a2)]) dX3_command_93 hl rfl (by decide) (by decide) (fun _ => rfl) (fun v23 ls hl => ?_)
          refine q_goto C 67 dX3_command_96 (by decide) ?_
          exact ih v23 σ ls (lv_sub hl [1, 2, 0] rfl)
        · refine q_aload_n C dX3_command_86 rfl (lv_at hl 0 rfl) ?_
          refine g_3_12 C hk0 kf_X3_25 dX3_command_87 ?_
          refine q_iload_n C dX3_command_90 rfl (lv_at hl 2 rfl) ?_
          refine q_iload_n C dX3_command_91 rfl (lv_at hl 1 rfl) ?_
          refine a_ist C (yk_3_12 hk0) (yl_3_12 hk0) dX3_command_92 (q_sg (fun σ9 => ?_))
          refine q_iinc (k := 2) C (fun v24 => [(3, .int v24), (0, .ref (gad G k0)), (2, .int a2)]) dX3_command_93 hl rfl (by decide) (by decide) (fun _ => rfl) (fun v24 ls hl => ?_)
          refine q_goto C 67 dX3_command_96 (by decide) ?_
          exact ih v24 σ9 ls (lv_sub hl [1, 2, 0] rfl)
  refine q_aload_n C dX3_command_0 rfl (lv_at hl 0 rfl) ?_
  refine g_3_11 C hk0 kf_X3_22 dX3_command_1 ?_
  refine q_aload_n C dX3_command_4 rfl (lv_at hl 0 rfl) ?_
  refine g_3_0 C hk0 kf_X3_12 dX3_command_5 ?_
  refine q_cv C (fun r h => cr_V (As := [.ref (gad G (k0 + 1))]) (rest := []) C (m_X0_becomeCells l G F (k0 + 3) (k0 + 1) σ r h) cb_X0_becomeCells (yk_3_11 hk0) (by decide) rfl (cf_0 (yk_3_11 hk0) _) rfl kl_X3_133 ⟨Nat.le_of_ble_eq_true rfl, Nat.le_of_ble_eq_true rfl⟩ ⟨Nat.zero_le _, Nat.zero_le _⟩ hl.1 rfl (Nat.le_of_ble_eq_true rfl) dX3_command_8 rfl) (fun σ1 => ?_)
  refine q_aload_n C dX3_command_11 rfl (lv_at hl 0 rfl) ?_
  refine q_aload_n C dX3_command_12 rfl (lv_at hl 0 rfl) ?_
  refine g_3_0 C hk0 kf_X3_12 dX3_command_13 ?_
  refine q_aload_n C dX3_command_16 rfl (lv_at hl 1 rfl) ?_
  refine q_iload_n C dX3_command_17 rfl (lv_at hl 2 rfl) ?_
  refine q_c2i C (fun r h => cr_V (As := [.ref (gad G a1), .int a2]) (rest := [.ref (gad G k0)]) C (m_X0_apply l G F (k0 + 1) a1 a2 σ1 r h) cb_X0_apply (yk_3_0 hk0) (by decide) rfl (cf_0 (yk_3_0 hk0) _) rfl kl_X3_137 ⟨Nat.le_of_ble_eq_true rfl, Nat.le_of_ble_eq_true rfl⟩ ⟨Nat.zero_le _, Nat.zero_le _⟩ hl.1 rfl (Nat.le_of_ble_eq_true rfl) dX3_command_18 rfl) (fun v1 σ2 => ?_)
  refine p_3_6 C hk0 kf_X3_74 dX3_command_21 (q_sg (fun σ3 => ?_))
  refine q_aload_n C dX3_command_24 rfl (lv_at hl 0 rfl) ?_
  refine g_3_6 C hk0 kf_X3_74 dX3_command_25 (fun v2 => ?_)
  refine q_if_eq C 41 dX3_command_28 (by decide) ?_ ?_
  · exact q_vretE C hr hlo dX3_command_41
  · refine q_iload_n C dX3_command_31 rfl (lv_at hl 2 rfl) ?_
    refine q_if_lt C 41 dX3_command_32 (by decide) ?_ ?_
    · exact q_vretE C hr hlo dX3_command_41
    · refine q_iload_n C dX3_command_35 rfl (lv_at hl 2 rfl) ?_
      refine q_bipush C dX3_command_36 rfl (by decide) (fun v3 => ?_)
      refine q_icmp_lt C 42 dX3_command_38 (by decide) ?_ ?_
      · refine q_aload_n C dX3_command_42 rfl (lv_at hl 0 rfl) ?_
        refine g_3_13 C hk0 kf_X3_29 dX3_command_43 ?_
        refine q_iload_n C dX3_command_46 rfl (lv_at hl 2 rfl) ?_
        refine q_aload_n C dX3_command_47 rfl (lv_at hl 0 rfl) ?_
        refine g_3_6 C hk0 kf_X3_74 dX3_command_48 (fun v4 => ?_)
        refine a_ist C (yk_3_13 hk0) (yl_3_13 hk0) dX3_command_51 (q_sg (fun σ4 => ?_))
        refine q_aload_n C dX3_command_52 rfl (lv_at hl 0 rfl) ?_
        refine q_dup C dX3_command_53 rfl ?_
        refine g_3_2 C hk0 kf_X3_61 dX3_command_54 (fun v5 => ?_)
        refine q_aload_n C dX3_command_57 rfl (lv_at hl 0 rfl) ?_
        refine g_3_6 C hk0 kf_X3_74 dX3_command_58 (fun v6 => ?_)
        refine q_ior C dX3_command_61 (fun v7 => ?_)
        refine p_3_2 C hk0 kf_X3_61 dX3_command_62 (q_sg (fun σ5 => ?_))
        refine q_iconst C dX3_command_65 rfl (by decide) (fun v8 => ?_)
        refine q_istore_n C [(3, .int v8), (0, .ref (gad G k0)), (1, .ref (gad G a1)), (2, .int a2)] dX3_command_66 rfl hl (by decide) rfl (fun ls hl => ?_)
        exact B67 F v8 σ5 ls (lv_sub hl [1, 3, 0] rfl)
      · exact q_vretE C hr hlo dX3_command_41
def f_X3_step (F : Nat) (k0 : Nat) (a1 : Nat) (a2 : Int) (σ : St) : Option (St) :=
  z_ob 3 k0 <| z_ob 4 a1 <| 
  z_gt 1 fun v1 =>
  z_ck (a2 + v1) fun v2 =>
  z_sg (z_up σ k0 1 v2) fun σ1 =>
  z_gt 0 fun v3 =>
  z_sg (z_up σ1 k0 6 v3) fun σ2 =>
  z_gt 0 fun v4 =>
  z_sg (z_up σ2 k0 7 v4) fun σ3 =>
  z_c1 (f_X4_kindOf F a1 a2 σ3) fun v5 =>
  z_c1 (f_X3_refusal F k0 v5 σ3) fun v6 =>
  z_sg (z_up σ3 k0 5 v6) fun σ4 =>
  z_gt (σ4 k0 5) fun v7 =>
  if v7 = 0 then (
    if v5 = 4 then (
      z_gt 1 fun v8 =>
      z_c1 (f_X3_allCells F k0 σ4) fun v9 =>
      z_c1 (f_X3_begin F k0 v8 a2 v9 σ4) fun σ5 =>
      some σ5)
    else
    if v5 = 5 then (
      z_gt 0 fun v10 =>
      z_gt (σ4 k0 2) fun v11 =>
      z_c1 (f_X3_begin F k0 v10 a2 v11 σ4) fun σ6 =>
      some σ6)
    else
    if v5 = 6 then (
      z_gt 0 fun v12 =>
      z_c1 (f_X4_numberOf F a1 a2 v12 σ4) fun v13 =>
      z_c1 (f_X3_keepNext F k0 v13 σ4) fun σ7 =>
      some σ7)
    else
    if v5 = 7 then (
      z_gt 32 fun v14 =>
      z_c1 (f_X3_keepNext F k0 v14 σ4) fun σ8 =>
      z_gt 1 fun v15 =>
      z_ck (a2 + v15) fun v16 =>
      z_c1 (f_X3_finishWhole F k0 v16 σ8) fun σ9 =>
      some σ9)
    else
    if v5 = 8 then (
      z_gt 2 fun v17 =>
      z_gt 1 fun v18 =>
      z_ck (a2 + v18) fun v19 =>
      z_c1 (f_X3_endOpen F k0 v17 v19 σ4) fun σ10 =>
      some σ10)
    else
    (
      z_c1 (f_X3_command F k0 a1 a2 σ4) fun σ11 =>
      some σ11))
  else (
    some σ4)
theorem cb_X3_step : CB yX3_step cX3_step 4 none 2 := ⟨ki_X3_step, kq_X3_step, kn_X3, kc_X3_step, by decide +kernel, by decide +kernel, by decide +kernel⟩
set_option maxRecDepth 20000 in
set_option maxHeartbeats 4000000 in
theorem m_X3_step (l : Launch) (G : GG) (F : Nat) (k0 : Nat) (a1 : Nat) (a2 : Int32) (σ : St) : ∀ r, f_X3_step F k0 a1 a2.toInt σ = some r → MC G l yX3_step cX3_step 4 none { frames := 3, cells := 0, slots := 0, locals := 89 } [.ref (gad G k0), .ref (gad G a1), .int a2] σ vV r := by
  refine MC_of (own := RX3) (fun _ => vV) (fun r => r) (by decide +kernel) rfl (Nat.le_of_ble_eq_true rfl) ?_
  intro p e s m args below meth c C hr hlo ls hl
  have hl : lv_has ls 4 [(0, .ref (gad G k0)), (1, .ref (gad G a1)), (2, .int a2)] := hl
  unfold f_X3_step
  refine q_ob (fun hk0 => ?_)
  refine q_ob (fun hk1 => ?_)
  refine q_aload_n C dX3_step_0 rfl (lv_at hl 0 rfl) ?_
  refine q_iload_n C dX3_step_1 rfl (lv_at hl 2 rfl) ?_
  refine q_iconst C dX3_step_2 rfl (by decide) (fun v1 => ?_)
  refine q_iadd C dX3_step_3 (fun v2 => ?_)
  refine p_3_1 C hk0 kf_X3_58 dX3_step_4 (q_sg (fun σ1 => ?_))
  refine q_aload_n C dX3_step_7 rfl (lv_at hl 0 rfl) ?_
  refine q_iconst C dX3_step_8 rfl (by decide) (fun v3 => ?_)
  refine p_3_6 C hk0 kf_X3_74 dX3_step_9 (q_sg (fun σ2 => ?_))
  refine q_aload_n C dX3_step_12 rfl (lv_at hl 0 rfl) ?_
  refine q_iconst C dX3_step_13 rfl (by decide) (fun v4 => ?_)
  refine p_3_7 C hk0 kf_X3_77 dX3_step_14 (q_sg (fun σ3 => ?_))
  refine q_aload_n C dX3_step_17 rfl (lv_at hl 1 rfl) ?_
  refine q_iload_n C dX3_step_18 rfl (lv_at hl 2 rfl) ?_
  refine q_c1i C (fun r h => cr_V (As := [.int a2]) (rest := []) C (m_X4_kindOf l G F a1 a2 σ3 r h) cb_X4_kindOf hk1 (by decide) rfl (cf_4 hk1 _) rfl kl_X3_104 ⟨Nat.le_of_ble_eq_true rfl, Nat.le_of_ble_eq_true rfl⟩ ⟨Nat.zero_le _, Nat.zero_le _⟩ hl.1 rfl (Nat.le_of_ble_eq_true rfl) dX3_step_19 rfl) (fun v5 => ?_)
  refine q_istore_n C [(3, .int v5), (0, .ref (gad G k0)), (1, .ref (gad G a1)), (2, .int a2)] dX3_step_22 rfl hl (by decide) rfl (fun ls hl => ?_)
  refine q_aload_n C dX3_step_23 rfl (lv_at hl 1 rfl) ?_
  refine q_aload_n C dX3_step_24 rfl (lv_at hl 1 rfl) ?_
  refine q_iload_n C dX3_step_25 rfl (lv_at hl 0 rfl) ?_
  refine q_c1i C (fun r h => cr_V (As := [.int v5]) (rest := [.ref (gad G k0)]) C (m_X3_refusal l G F k0 v5 σ3 r h) cb_X3_refusal hk0 (by decide) rfl (cf_3 hk0 _) rfl kl_X3_108 ⟨Nat.le_of_ble_eq_true rfl, Nat.le_of_ble_eq_true rfl⟩ ⟨Nat.zero_le _, Nat.zero_le _⟩ hl.1 rfl (Nat.le_of_ble_eq_true rfl) dX3_step_26 rfl) (fun v6 => ?_)
  refine p_3_5 C hk0 kf_X3_71 dX3_step_29 (q_sg (fun σ4 => ?_))
  refine q_aload_n C dX3_step_32 rfl (lv_at hl 1 rfl) ?_
  refine g_3_5 C hk0 kf_X3_71 dX3_step_33 (fun v7 => ?_)
  refine q_if_eq C 40 dX3_step_36 (by decide) ?_ ?_
  · refine q_iload_n C dX3_step_40 rfl (lv_at hl 0 rfl) ?_
    refine q_ite (fun e0 => ?_) (fun e0 => ?_) _
    · refine q_tin C 76 e0 dX3_step_41 (by decide) (by decide) rfl (by decide) ?_
      refine q_aload_n C dX3_step_76 rfl (lv_at hl 1 rfl) ?_
      refine q_iconst C dX3_step_77 rfl (by decide) (fun v8 => ?_)
      refine q_iload_n C dX3_step_78 rfl (lv_at hl 3 rfl) ?_
      refine q_aload_n C dX3_step_79 rfl (lv_at hl 1 rfl) ?_
      refine q_c1i C (fun r h => cr_V (As := []) (rest := [.int a2, .int v8, .ref (gad G k0)]) C (m_X3_allCells l G F k0 σ4 r h) cb_X3_allCells hk0 (by decide) rfl (cf_3 hk0 _) rfl kl_X3_111 ⟨Nat.le_of_ble_eq_true rfl, Nat.le_of_ble_eq_true rfl⟩ ⟨Nat.zero_le _, Nat.zero_le _⟩ hl.1 rfl (Nat.le_of_ble_eq_true rfl) dX3_step_80 rfl) (fun v9 => ?_)
      refine q_cv C (fun r h => cr_V (As := [.int v8, .int a2, .int v9]) (rest := []) C (m_X3_begin l G F k0 v8 a2 v9 σ4 r h) cb_X3_begin hk0 (by decide) rfl (cf_3 hk0 _) rfl kl_X3_114 ⟨Nat.le_of_ble_eq_true rfl, Nat.le_of_ble_eq_true rfl⟩ ⟨Nat.zero_le _, Nat.zero_le _⟩ hl.1 rfl (Nat.le_of_ble_eq_true rfl) dX3_step_83 rfl) (fun σ5 => ?_)
      refine q_goto C 148 dX3_step_86 (by decide) ?_
      exact q_vretE C hr hlo dX3_step_148
    refine q_ite (fun e1 => ?_) (fun e1 => ?_) _
    · refine q_tin C 89 e1 dX3_step_41 (by decide) (by decide) rfl (by decide) ?_
      refine q_aload_n C dX3_step_89 rfl (lv_at hl 1 rfl) ?_
      refine q_iconst C dX3_step_90 rfl (by decide) (fun v10 => ?_)
      refine q_iload_n C dX3_step_91 rfl (lv_at hl 3 rfl) ?_
      refine q_aload_n C dX3_step_92 rfl (lv_at hl 1 rfl) ?_
      refine g_3_2 C hk0 kf_X3_61 dX3_step_93 (fun v11 => ?_)
      refine q_cv C (fun r h => cr_V (As := [.int v10, .int a2, .int v11]) (rest := []) C (m_X3_begin l G F k0 v10 a2 v11 σ4 r h) cb_X3_begin hk0 (by decide) rfl (cf_3 hk0 _) rfl kl_X3_114 ⟨Nat.le_of_ble_eq_true rfl, Nat.le_of_ble_eq_true rfl⟩ ⟨Nat.zero_le _, Nat.zero_le _⟩ hl.1 rfl (Nat.le_of_ble_eq_true rfl) dX3_step_96 rfl) (fun σ6 => ?_)
      refine q_goto C 148 dX3_step_99 (by decide) ?_
      exact q_vretE C hr hlo dX3_step_148
    refine q_ite (fun e2 => ?_) (fun e2 => ?_) _
    · refine q_tin C 102 e2 dX3_step_41 (by decide) (by decide) rfl (by decide) ?_
      refine q_aload_n C dX3_step_102 rfl (lv_at hl 1 rfl) ?_
      refine q_aload_n C dX3_step_103 rfl (lv_at hl 2 rfl) ?_
      refine q_iload_n C dX3_step_104 rfl (lv_at hl 3 rfl) ?_
      refine q_iconst C dX3_step_105 rfl (by decide) (fun v12 => ?_)
      refine q_c1i C (fun r h => cr_V (As := [.int a2, .int v12]) (rest := [.ref (gad G k0)]) C (m_X4_numberOf l G F a1 a2 v12 σ4 r h) cb_X4_numberOf hk1 (by decide) rfl (cf_4 hk1 _) rfl kl_X3_118 ⟨Nat.le_of_ble_eq_true rfl, Nat.le_of_ble_eq_true rfl⟩ ⟨Nat.zero_le _, Nat.zero_le _⟩ hl.1 rfl (Nat.le_of_ble_eq_true rfl) dX3_step_106 rfl) (fun v13 => ?_)
      refine q_cv C (fun r h => cr_V (As := [.int v13]) (rest := []) C (m_X3_keepNext l G F k0 v13 σ4 r h) cb_X3_keepNext hk0 (by decide) rfl (cf_3 hk0 _) rfl kl_X3_121 ⟨Nat.le_of_ble_eq_true rfl, Nat.le_of_ble_eq_true rfl⟩ ⟨Nat.zero_le _, Nat.zero_le _⟩ hl.1 rfl (Nat.le_of_ble_eq_true rfl) dX3_step_109 rfl) (fun σ7 => ?_)
      refine q_goto C 148 dX3_step_112 (by decide) ?_
      exact q_vretE C hr hlo dX3_step_148
    refine q_ite (fun e3 => ?_) (fun e3 => ?_) _
    · refine q_tin C 115 e3 dX3_step_41 (by decide) (by decide) rfl (by decide) ?_
      refine q_aload_n C dX3_step_115 rfl (lv_at hl 1 rfl) ?_
      refine q_bipush C dX3_step_116 rfl (by decide) (fun v14 => ?_)
      refine q_cv C (fun r h => cr_V (As := [.int v14]) (rest := []) C (m_X3_keepNext l G F k0 v14 σ4 r h) cb_X3_keepNext hk0 (by decide) rfl (cf_3 hk0 _) rfl kl_X3_121 ⟨Nat.le_of_ble_eq_true rfl, Nat.le_of_ble_eq_true rfl⟩ ⟨Nat.zero_le _, Nat.zero_le _⟩ hl.1 rfl (Nat.le_of_ble_eq_true rfl) dX3_step_118 rfl) (fun σ8 => ?_)
      refine q_aload_n C dX3_step_121 rfl (lv_at hl 1 rfl) ?_
      refine q_iload_n C dX3_step_122 rfl (lv_at hl 3 rfl) ?_
      refine q_iconst C dX3_step_123 rfl (by decide) (fun v15 => ?_)
      refine q_iadd C dX3_step_124 (fun v16 => ?_)
      refine q_cv C (fun r h => cr_V (As := [.int v16]) (rest := []) C (m_X3_finishWhole l G F k0 v16 σ8 r h) cb_X3_finishWhole hk0 (by decide) rfl (cf_3 hk0 _) rfl kl_X3_124 ⟨Nat.le_of_ble_eq_true rfl, Nat.le_of_ble_eq_true rfl⟩ ⟨Nat.zero_le _, Nat.zero_le _⟩ hl.1 rfl (Nat.le_of_ble_eq_true rfl) dX3_step_125 rfl) (fun σ9 => ?_)
      refine q_goto C 148 dX3_step_128 (by decide) ?_
      exact q_vretE C hr hlo dX3_step_148
    refine q_ite (fun e4 => ?_) (fun e4 => ?_) _
    · refine q_tin C 131 e4 dX3_step_41 (by decide) (by decide) rfl (by decide) ?_
      refine q_aload_n C dX3_step_131 rfl (lv_at hl 1 rfl) ?_
      refine q_iconst C dX3_step_132 rfl (by decide) (fun v17 => ?_)
      refine q_iload_n C dX3_step_133 rfl (lv_at hl 3 rfl) ?_
      refine q_iconst C dX3_step_134 rfl (by decide) (fun v18 => ?_)
      refine q_iadd C dX3_step_135 (fun v19 => ?_)
      refine q_cv C (fun r h => cr_V (As := [.int v17, .int v19]) (rest := []) C (m_X3_endOpen l G F k0 v17 v19 σ4 r h) cb_X3_endOpen hk0 (by decide) rfl (cf_3 hk0 _) rfl kl_X3_127 ⟨Nat.le_of_ble_eq_true rfl, Nat.le_of_ble_eq_true rfl⟩ ⟨Nat.zero_le _, Nat.zero_le _⟩ hl.1 rfl (Nat.le_of_ble_eq_true rfl) dX3_step_136 rfl) (fun σ10 => ?_)
      refine q_goto C 148 dX3_step_139 (by decide) ?_
      exact q_vretE C hr hlo dX3_step_148
    refine q_tout C 142 dX3_step_41 (by omega) (by decide) ?_
    refine q_aload_n C dX3_step_142 rfl (lv_at hl 1 rfl) ?_
    refine q_aload_n C dX3_step_143 rfl (lv_at hl 2 rfl) ?_
    refine q_iload_n C dX3_step_144 rfl (lv_at hl 3 rfl) ?_
    refine q_cv C (fun r h => cr_V (As := [.ref (gad G a1), .int a2]) (rest := []) C (m_X3_command l G F k0 a1 a2 σ4 r h) cb_X3_command hk0 (by decide) rfl (cf_3 hk0 _) rfl kl_X3_130 ⟨Nat.le_of_ble_eq_true rfl, Nat.le_of_ble_eq_true rfl⟩ ⟨Nat.zero_le _, Nat.zero_le _⟩ hl.1 rfl (Nat.le_of_ble_eq_true rfl) dX3_step_145 rfl) (fun σ11 => ?_)
    exact q_vretE C hr hlo dX3_step_148
  · exact q_vretE C hr hlo dX3_step_39
def f_X3_play_L12 (F : Nat) (k0 : Nat) (a1 : Nat) (a2 : Int) (a3 : Int)   : Nat → Int → St → Option (St)
  | 0, _, _ => none
  | n + 1, x3, σ =>
    z_c1 (f_X4_size F a1 σ) fun v4 =>
    if v4 ≤ x3 then (
      some σ)
    else (
      z_gt 60 fun v5 =>
      if v5 ≤ x3 then (
        some σ)
      else (
        z_c1 (f_X6_isOut F a3 x3 σ) fun v6 =>
        if ¬ v6 = 0 then (
          z_ck (x3 + 1) fun v7 =>
          f_X3_play_L12 F k0 a1 a2 a3 n v7 σ)
        else (
          z_c1 (f_X3_step F k0 a1 x3 σ) fun σ2 =>
          z_ck (x3 + 1) fun v8 =>
          f_X3_play_L12 F k0 a1 a2 a3 n v8 σ2)))

def f_X3_play (F : Nat) (k0 : Nat) (a1 : Nat) (a2 : Int) (a3 : Int) (σ : St) : Option (St) :=
  z_ob 3 k0 <| z_ob 4 a1 <| 
  z_gt (σ a1 0) fun v1 =>
  z_c1 (f_X3_clear F k0 v1 a2 σ) fun σ1 =>
  z_gt 0 fun v2 =>
  f_X3_play_L12 F k0 a1 a2 a3 F v2 σ1
theorem cb_X3_play : CB yX3_play cX3_play 6 none 3 := ⟨ki_X3_play, kq_X3_play, kn_X3, kc_X3_play, by decide +kernel, by decide +kernel, by decide +kernel⟩
set_option maxRecDepth 20000 in
set_option maxHeartbeats 4000000 in
theorem m_X3_play (l : Launch) (G : GG) (F : Nat) (k0 : Nat) (a1 : Nat) (a2 : Int32) (a3 : Int64) (σ : St) : ∀ r, f_X3_play F k0 a1 a2.toInt a3.toInt σ = some r → MC G l yX3_play cX3_play 6 none { frames := 4, cells := 0, slots := 0, locals := 112 } [.ref (gad G k0), .ref (gad G a1), .int a2, .long a3] σ vV r := by
  refine MC_of (own := RX3) (fun _ => vV) (fun r => r) (by decide +kernel) rfl (Nat.le_of_ble_eq_true rfl) ?_
  intro p e s m args below meth c C hr hlo ls hl
  have hl : lv_has ls 6 [(0, .ref (gad G k0)), (1, .ref (gad G a1)), (2, .int a2), (3, .long a3)] := hl
  unfold f_X3_play
  refine q_ob (fun hk0 => ?_)
  refine q_ob (fun hk1 => ?_)
  have B12 : ∀ (n : Nat) (x3 : Int32) (σ : St) (ls : Array Slot), lv_has ls 6 [(0, .ref (gad G k0)), (1, .ref (gad G a1)), (3, .long a3), (5, .int x3)] → Sim G (AG G) 0 0 p l e { frames := 4, cells := 0, slots := 0, locals := 112 } s m args below meth c (fun r : St => MQ below (QC G (vV) (r)) args s 0 0 (AG G)) σ (f_X3_play_L12 F k0 a1 a2.toInt a3.toInt   n x3.toInt σ) (F0 m 12 ls []) := by
    intro n
    induction n with
    | zero =>
      intro x3 σ ls hl
      exact sim_none
    | succ n ih =>
      intro x3 σ ls hl
      rw [f_X3_play_L12]
      refine q_iload C dX3_play_12 (lv_at hl 3 rfl) ?_
      refine q_aload_n C dX3_play_14 rfl (lv_at hl 1 rfl) ?_
      refine q_c1i C (fun r h => cr_V (As := []) (rest := [.int x3]) C (m_X4_size l G F a1 σ r h) cb_X4_size hk1 (by decide) rfl (cf_4 hk1 _) rfl kl_X3_92 ⟨Nat.le_of_ble_eq_true rfl, Nat.le_of_ble_eq_true rfl⟩ ⟨Nat.zero_le _, Nat.zero_le _⟩ hl.1 rfl (Nat.le_of_ble_eq_true rfl) dX3_play_15 rfl) (fun v4 => ?_)
      refine q_icmp_ge C 50 dX3_play_18 (by decide) ?_ ?_
      · exact q_vretE C hr hlo dX3_play_50
      · refine q_iload C dX3_play_21 (lv_at hl 3 rfl) ?_
        refine q_bipush C dX3_play_23 rfl (by decide) (fun v5 => ?_)
        refine q_icmp_ge C 50 dX3_play_25 (by decide) ?_ ?_
        · exact q_vretE C hr hlo dX3_play_50
        · refine q_lload_n C dX3_play_28 rfl (lv_at hl 2 rfl) ?_
          refine q_iload C dX3_play_29 (lv_at hl 3 rfl) ?_
          refine q_c1i C (fun r h => cr_SN (As := [.long a3, .int x3]) (rest := []) C (host := "CopyWhileRun") (m_X6_isOut l G F a3 x3 σ r h) sb_X6_isOut (List.mem_of_getElem? (i := 12) rfl) ⟨Nat.le_of_ble_eq_true rfl, Nat.le_of_ble_eq_true rfl⟩ ⟨Nat.zero_le _, Nat.zero_le _⟩ hl.1 rfl (Nat.le_of_ble_eq_true rfl) dX3_play_31 rfl) (fun v6 => ?_)
          refine q_if_ne C 44 dX3_play_34 (by decide) ?_ ?_
          · refine q_iinc (k := 3) C (fun v7 => [(5, .int v7), (0, .ref (gad G k0)), (1, .ref (gad G a1)), (3, .long a3)]) dX3_play_44 hl rfl (by decide) (by decide) (fun _ => rfl) (fun v7 ls hl => ?_)
            refine q_goto C 12 dX3_play_47 (by decide) ?_
            exact ih v7 σ ls (lv_sub hl [1, 2, 3, 0] rfl)
          · refine q_aload_n C dX3_play_37 rfl (lv_at hl 0 rfl) ?_
            refine q_aload_n C dX3_play_38 rfl (lv_at hl 1 rfl) ?_
            refine q_iload C dX3_play_39 (lv_at hl 3 rfl) ?_
            refine q_cv C (fun r h => cr_V (As := [.ref (gad G a1), .int x3]) (rest := []) C (m_X3_step l G F k0 a1 x3 σ r h) cb_X3_step hk0 (by decide) rfl (cf_3 hk0 _) rfl kl_X3_100 ⟨Nat.le_of_ble_eq_true rfl, Nat.le_of_ble_eq_true rfl⟩ ⟨Nat.zero_le _, Nat.zero_le _⟩ hl.1 rfl (Nat.le_of_ble_eq_true rfl) dX3_play_41 rfl) (fun σ2 => ?_)
            refine q_iinc (k := 3) C (fun v8 => [(5, .int v8), (0, .ref (gad G k0)), (1, .ref (gad G a1)), (3, .long a3)]) dX3_play_44 hl rfl (by decide) (by decide) (fun _ => rfl) (fun v8 ls hl => ?_)
            refine q_goto C 12 dX3_play_47 (by decide) ?_
            exact ih v8 σ2 ls (lv_sub hl [1, 2, 3, 0] rfl)
  refine q_aload_n C dX3_play_0 rfl (lv_at hl 0 rfl) ?_
  refine q_aload_n C dX3_play_1 rfl (lv_at hl 1 rfl) ?_
  refine g_4_0 C hk1 kf_X3_86 dX3_play_2 (fun v1 => ?_)
  refine q_iload_n C dX3_play_5 rfl (lv_at hl 2 rfl) ?_
  refine q_cv C (fun r h => cr_V (As := [.int v1, .int a2]) (rest := []) C (m_X3_clear l G F k0 v1 a2 σ r h) cb_X3_clear hk0 (by decide) rfl (cf_3 hk0 _) rfl kl_X3_89 ⟨Nat.le_of_ble_eq_true rfl, Nat.le_of_ble_eq_true rfl⟩ ⟨Nat.zero_le _, Nat.zero_le _⟩ hl.1 rfl (Nat.le_of_ble_eq_true rfl) dX3_play_6 rfl) (fun σ1 => ?_)
  refine q_iconst C dX3_play_9 rfl (by decide) (fun v2 => ?_)
  refine q_istore C [(5, .int v2), (0, .ref (gad G k0)), (1, .ref (gad G a1)), (2, .int a2), (3, .long a3)] dX3_play_10 hl (by decide) rfl (fun ls hl => ?_)
  exact B12 F v2 σ1 ls (lv_sub hl [1, 2, 4, 0] rfl)
def f_X3_latestChange (F : Nat) (k0 : Nat) (a1 : Int) (σ : St) : Option (Int) :=
  z_ob 3 k0 <| 
  if a1 < 0 then (
    z_gt (-1) fun v1 =>
    some v1)
  else (
    z_gt 32 fun v2 =>
    if v2 ≤ a1 then (
      z_gt (-1) fun v3 =>
      some v3)
    else (
      z_ix a1 32 <| z_gt (σ (k0 + 5) a1) fun v4 =>
      some v4))
theorem cb_X3_latestChange : CB yX3_latestChange cX3_latestChange 2 (some .int) 1 := ⟨ki_X3_latestChange, kq_X3_latestChange, kn_X3, kc_X3_latestChange, by decide +kernel, by decide +kernel, by decide +kernel⟩
set_option maxRecDepth 20000 in
set_option maxHeartbeats 4000000 in
theorem m_X3_latestChange (l : Launch) (G : GG) (F : Nat) (k0 : Nat) (a1 : Int32) (σ : St) : ∀ r, f_X3_latestChange F k0 a1.toInt σ = some r → MC G l yX3_latestChange cX3_latestChange 2 (some .int) { frames := 0, cells := 0, slots := 0, locals := 0 } [.ref (gad G k0), .int a1] σ (vI r) σ := by
  refine MC_of (own := RX3) (vI) (fun _ => σ) (by decide +kernel) rfl (Nat.le_of_ble_eq_true rfl) ?_
  intro p e s m args below meth c C hr hlo ls hl
  have hl : lv_has ls 2 [(0, .ref (gad G k0)), (1, .int a1)] := hl
  unfold f_X3_latestChange
  refine q_ob (fun hk0 => ?_)
  refine q_iload_n C dX3_latestChange_0 rfl (lv_at hl 1 rfl) ?_
  refine q_if_lt C 19 dX3_latestChange_1 (by decide) ?_ ?_
  · refine q_iconst C dX3_latestChange_19 rfl (by decide) (fun v1 => ?_)
    exact q_iret C hr hlo dX3_latestChange_20
  · refine q_iload_n C dX3_latestChange_4 rfl (lv_at hl 1 rfl) ?_
    refine q_bipush C dX3_latestChange_5 rfl (by decide) (fun v2 => ?_)
    refine q_icmp_ge C 19 dX3_latestChange_7 (by decide) ?_ ?_
    · refine q_iconst C dX3_latestChange_19 rfl (by decide) (fun v3 => ?_)
      exact q_iret C hr hlo dX3_latestChange_20
    · refine q_aload_n C dX3_latestChange_10 rfl (lv_at hl 0 rfl) ?_
      refine g_3_12 C hk0 kf_X3_25 dX3_latestChange_11 ?_
      refine q_iload_n C dX3_latestChange_14 rfl (lv_at hl 1 rfl) ?_
      refine a_ild C (yk_3_12 hk0) (yl_3_12 hk0) dX3_latestChange_15 (fun v4 => ?_)
      refine q_goto C 20 dX3_latestChange_16 (by decide) ?_
      exact q_iret C hr hlo dX3_latestChange_20
def f_X3_isWhole (F : Nat) (k0 : Nat) (a1 : Int) (σ : St) : Option (Int) :=
  z_ob 3 k0 <| 
  z_ca (f_X3_copyOf F k0 a1 σ) (
    z_gt 0 fun v2 =>
    z_bo v2 <| some v2) fun k1 => z_ob 1 k1 <|
  z_gt (σ k1 2) fun v3 =>
  z_gt 1 fun v4 =>
  if ¬ v3 = v4 then (
    z_gt 0 fun v5 =>
    z_bo v5 <| some v5)
  else (
    z_gt 1 fun v6 =>
    z_bo v6 <| some v6)
theorem cb_X3_isWhole : CB yX3_isWhole cX3_isWhole 3 (some .boolean) 1 := ⟨ki_X3_isWhole, kq_X3_isWhole, kn_X3, kc_X3_isWhole, by decide +kernel, by decide +kernel, by decide +kernel⟩
set_option maxRecDepth 20000 in
set_option maxHeartbeats 4000000 in
theorem m_X3_isWhole (l : Launch) (G : GG) (F : Nat) (k0 : Nat) (a1 : Int32) (σ : St) : ∀ r, f_X3_isWhole F k0 a1.toInt σ = some r → MC G l yX3_isWhole cX3_isWhole 3 (some .boolean) { frames := 1, cells := 0, slots := 0, locals := 21 } [.ref (gad G k0), .int a1] σ (vI r) σ := by
  refine MC_of (own := RX3) (vI) (fun _ => σ) (by decide +kernel) rfl (Nat.le_of_ble_eq_true rfl) ?_
  intro p e s m args below meth c C hr hlo ls hl
  have hl : lv_has ls 3 [(0, .ref (gad G k0)), (1, .int a1)] := hl
  unfold f_X3_isWhole
  refine q_ob (fun hk0 => ?_)
  refine q_aload_n C dX3_isWhole_0 rfl (lv_at hl 0 rfl) ?_
  refine q_iload_n C dX3_isWhole_1 rfl (lv_at hl 1 rfl) ?_
  refine q_ca C (fun r h => cr_V (As := [.int a1]) (rest := []) C (m_X3_copyOf l G F k0 a1 σ r h) cb_X3_copyOf hk0 (by decide) rfl (cf_3 hk0 _) rfl kl_X3_145 ⟨Nat.le_of_ble_eq_true rfl, Nat.le_of_ble_eq_true rfl⟩ ⟨Nat.zero_le _, Nat.zero_le _⟩ hl.1 rfl (Nat.le_of_ble_eq_true rfl) dX3_isWhole_2 rfl) ?_ (fun k1 => q_ob (fun hk1 => ?_))
  · refine q_astore_nN C [(2, .null), (0, .ref (gad G k0)), (1, .int a1)] dX3_isWhole_5 rfl hl (by decide) rfl (fun ls hl => ?_)
    refine q_aload_nN C dX3_isWhole_6 rfl (lv_at hl 0 rfl) ?_
    refine q_ifnullN C 22 dX3_isWhole_7 (by decide) ?_
    refine q_iconst C dX3_isWhole_22 rfl (by decide) (fun v2 => ?_)
    exact q_zret C hr hlo dX3_isWhole_23
  · refine q_astore_n C [(2, .ref (gad G k1)), (0, .ref (gad G k0)), (1, .int a1)] dX3_isWhole_5 rfl hl (by decide) rfl (fun ls hl => ?_)
    refine q_aload_n C dX3_isWhole_6 rfl (lv_at hl 0 rfl) ?_
    refine q_ifnull C dX3_isWhole_7 ?_
    refine q_aload_n C dX3_isWhole_10 rfl (lv_at hl 0 rfl) ?_
    refine g_1_2 C hk1 kf_X3_179 dX3_isWhole_11 (fun v3 => ?_)
    refine q_iconst C dX3_isWhole_14 rfl (by decide) (fun v4 => ?_)
    refine q_icmp_ne C 22 dX3_isWhole_15 (by decide) ?_ ?_
    · refine q_iconst C dX3_isWhole_22 rfl (by decide) (fun v5 => ?_)
      exact q_zret C hr hlo dX3_isWhole_23
    · refine q_iconst C dX3_isWhole_18 rfl (by decide) (fun v6 => ?_)
      refine q_goto C 23 dX3_isWhole_19 (by decide) ?_
      exact q_zret C hr hlo dX3_isWhole_23
def f_X3_sizes_L4 (F : Nat) (k0 : Nat) (a1 : Int)  (σ : St) : Nat → Int → Int → Option (Int)
  | 0, _, _ => none
  | n + 1, x3, x4 =>
    z_gt (σ k0 3) fun v5 =>
    if v5 ≤ x4 then (
      some x3)
    else (
      z_gt 30 fun v6 =>
      if v6 ≤ x4 then (
        some x3)
      else (
        z_ix x4 30 <|
        z_gt (σ (k0 + 7 + 1 + 3 * x4.toNat) 2) fun v8 =>
        if ¬ v8 = a1 then (
          z_ck (x4 + 1) fun v9 =>
          f_X3_sizes_L4 F k0 a1 σ n x3 v9)
        else (
          z_ix x4 30 <|
          z_gt (σ (k0 + 7 + 1 + 3 * x4.toNat) 7) fun v11 =>
          z_ck (x3 + v11) fun v12 =>
          z_ck (x4 + 1) fun v13 =>
          f_X3_sizes_L4 F k0 a1 σ n v12 v13)))

def f_X3_sizes (F : Nat) (k0 : Nat) (a1 : Int) (σ : St) : Option (Int) :=
  z_ob 3 k0 <| 
  z_gt 0 fun v1 =>
  z_gt 0 fun v2 =>
  f_X3_sizes_L4 F k0 a1 σ F v1 v2
theorem cb_X3_sizes : CB yX3_sizes cX3_sizes 4 (some .int) 1 := ⟨ki_X3_sizes, kq_X3_sizes, kn_X3, kc_X3_sizes, by decide +kernel, by decide +kernel, by decide +kernel⟩
set_option maxRecDepth 20000 in
set_option maxHeartbeats 4000000 in
theorem m_X3_sizes (l : Launch) (G : GG) (F : Nat) (k0 : Nat) (a1 : Int32) (σ : St) : ∀ r, f_X3_sizes F k0 a1.toInt σ = some r → MC G l yX3_sizes cX3_sizes 4 (some .int) { frames := 0, cells := 0, slots := 0, locals := 0 } [.ref (gad G k0), .int a1] σ (vI r) σ := by
  refine MC_of (own := RX3) (vI) (fun _ => σ) (by decide +kernel) rfl (Nat.le_of_ble_eq_true rfl) ?_
  intro p e s m args below meth c C hr hlo ls hl
  have hl : lv_has ls 4 [(0, .ref (gad G k0)), (1, .int a1)] := hl
  unfold f_X3_sizes
  refine q_ob (fun hk0 => ?_)
  have B4 : ∀ (n : Nat) (x3 : Int32) (x4 : Int32) (ls : Array Slot), lv_has ls 4 [(0, .ref (gad G k0)), (1, .int a1), (2, .int x3), (3, .int x4)] → Sim G (AG G) 0 0 p l e { frames := 0, cells := 0, slots := 0, locals := 0 } s m args below meth c (fun r : Int => MQ below (QC G (vI r) (σ)) args s 0 0 (AG G)) σ (f_X3_sizes_L4 F k0 a1.toInt  σ n x3.toInt x4.toInt) (F0 m 4 ls []) := by
    intro n
    induction n with
    | zero =>
      intro x3 x4 ls hl
      exact sim_none
    | succ n ih =>
      intro x3 x4 ls hl
      rw [f_X3_sizes_L4]
      refine q_iload_n C dX3_sizes_4 rfl (lv_at hl 3 rfl) ?_
      refine q_aload_n C dX3_sizes_5 rfl (lv_at hl 0 rfl) ?_
      refine g_3_3 C hk0 kf_X3_64 dX3_sizes_6 (fun v5 => ?_)
      refine q_icmp_ge C 49 dX3_sizes_9 (by decide) ?_ ?_
      · refine q_iload_n C dX3_sizes_49 rfl (lv_at hl 2 rfl) ?_
        exact q_iret C hr hlo dX3_sizes_50
      · refine q_iload_n C dX3_sizes_12 rfl (lv_at hl 3 rfl) ?_
        refine q_bipush C dX3_sizes_13 rfl (by decide) (fun v6 => ?_)
        refine q_icmp_ge C 49 dX3_sizes_15 (by decide) ?_ ?_
        · refine q_iload_n C dX3_sizes_49 rfl (lv_at hl 2 rfl) ?_
          exact q_iret C hr hlo dX3_sizes_50
        · refine q_aload_n C dX3_sizes_18 rfl (lv_at hl 0 rfl) ?_
          refine g_3_14 C hk0 kf_X3_34 dX3_sizes_19 ?_
          refine q_iload_n C dX3_sizes_22 rfl (lv_at hl 3 rfl) ?_
          refine a_ald12 C (yk_3_14 hk0) (yl_3_14 hk0) dX3_sizes_23 (fun h7 => ?_)
          refine g_1_2 C (ye_12 (yk_3_14 hk0) (i := x4.toInt.toNat) (by omega)) kf_X3_179 dX3_sizes_24 (fun v8 => ?_)
          refine q_iload_n C dX3_sizes_27 rfl (lv_at hl 1 rfl) ?_
          refine q_icmp_ne C 43 dX3_sizes_28 (by decide) ?_ ?_
          · refine q_iinc (k := 3) C (fun v9 => [(3, .int v9), (0, .ref (gad G k0)), (1, .int a1), (2, .int x3)]) dX3_sizes_43 hl rfl (by decide) (by decide) (fun _ => rfl) (fun v9 ls hl => ?_)
            refine q_goto C 4 dX3_sizes_46 (by decide) ?_
            exact ih x3 v9 ls (lv_sub hl [1, 2, 3, 0] rfl)
          · refine q_iload_n C dX3_sizes_31 rfl (lv_at hl 2 rfl) ?_
            refine q_aload_n C dX3_sizes_32 rfl (lv_at hl 0 rfl) ?_
            refine g_3_14 C hk0 kf_X3_34 dX3_sizes_33 ?_
            refine q_iload_n C dX3_sizes_36 rfl (lv_at hl 3 rfl) ?_
            refine a_ald12 C (yk_3_14 hk0) (yl_3_14 hk0) dX3_sizes_37 (fun h10 => ?_)
            refine g_1_7 C (ye_12 (yk_3_14 hk0) (i := x4.toInt.toNat) (by omega)) kf_X3_160 dX3_sizes_38 (fun v11 => ?_)
            refine q_iadd C dX3_sizes_41 (fun v12 => ?_)
            refine q_istore_n C [(2, .int v12), (0, .ref (gad G k0)), (1, .int a1), (3, .int x4)] dX3_sizes_42 rfl hl (by decide) rfl (fun ls hl => ?_)
            refine q_iinc (k := 3) C (fun v13 => [(3, .int v13), (2, .int v12), (0, .ref (gad G k0)), (1, .int a1)]) dX3_sizes_43 hl rfl (by decide) (by decide) (fun _ => rfl) (fun v13 ls hl => ?_)
            refine q_goto C 4 dX3_sizes_46 (by decide) ?_
            exact ih v12 v13 ls (lv_sub hl [2, 3, 1, 0] rfl)
  refine q_iconst C dX3_sizes_0 rfl (by decide) (fun v1 => ?_)
  refine q_istore_n C [(2, .int v1), (0, .ref (gad G k0)), (1, .int a1)] dX3_sizes_1 rfl hl (by decide) rfl (fun ls hl => ?_)
  refine q_iconst C dX3_sizes_2 rfl (by decide) (fun v2 => ?_)
  refine q_istore_n C [(3, .int v2), (2, .int v1), (0, .ref (gad G k0)), (1, .int a1)] dX3_sizes_3 rfl hl (by decide) rfl (fun ls hl => ?_)
  exact B4 F v1 v2 ls (lv_sub hl [2, 3, 1, 0] rfl)
def f_J6_bitCount_0f7a4 (F : Nat) (a1 : Int) (σ : St) : Option (Int) :=
  
  z_gt 1 fun v1 =>
  z_gt (z_ushr a1 v1) fun v2 =>
  z_gt 1431655765 fun v3 =>
  z_gt (z_and v2 v3) fun v4 =>
  z_gt (z_w (a1 - v4)) fun v5 =>
  z_gt 858993459 fun v6 =>
  z_gt (z_and v5 v6) fun v7 =>
  z_gt 2 fun v8 =>
  z_gt (z_ushr v5 v8) fun v9 =>
  z_gt 858993459 fun v10 =>
  z_gt (z_and v9 v10) fun v11 =>
  z_gt (z_w (v7 + v11)) fun v12 =>
  z_gt 4 fun v13 =>
  z_gt (z_ushr v12 v13) fun v14 =>
  z_gt (z_w (v12 + v14)) fun v15 =>
  z_gt 252645135 fun v16 =>
  z_gt (z_and v15 v16) fun v17 =>
  z_gt 8 fun v18 =>
  z_gt (z_ushr v17 v18) fun v19 =>
  z_gt (z_w (v17 + v19)) fun v20 =>
  z_gt 16 fun v21 =>
  z_gt (z_ushr v20 v21) fun v22 =>
  z_gt (z_w (v20 + v22)) fun v23 =>
  z_gt 63 fun v24 =>
  z_gt (z_and v23 v24) fun v25 =>
  some v25
theorem sb_J6_bitCount_0f7a4 : SB yJ6_bitCount_0f7a4 cJ6_bitCount_0f7a4 1 (some .int) 1 := ⟨ks_J6_bitCount_0f7a4, kn_J6, kc_J6_bitCount_0f7a4, by decide +kernel, by decide +kernel, by decide +kernel⟩
set_option maxRecDepth 20000 in
set_option maxHeartbeats 4000000 in
theorem m_J6_bitCount_0f7a4 (l : Launch) (G : GG) (F : Nat) (a1 : Int32) (σ : St) : ∀ r, f_J6_bitCount_0f7a4 F a1.toInt σ = some r → MC G l yJ6_bitCount_0f7a4 cJ6_bitCount_0f7a4 1 (some .int) { frames := 0, cells := 0, slots := 0, locals := 0 } [.int a1] σ (vI r) σ := by
  refine MC_of (own := RJ6) (vI) (fun _ => σ) (by decide +kernel) rfl (Nat.le_of_ble_eq_true rfl) ?_
  intro p e s m args below meth c C hr hlo ls hl
  have hl : lv_has ls 1 [(0, .int a1)] := hl
  unfold f_J6_bitCount_0f7a4
  refine q_iload_n C dJ6_bitCount_0f7a4_0 rfl (lv_at hl 0 rfl) ?_
  refine q_iload_n C dJ6_bitCount_0f7a4_1 rfl (lv_at hl 0 rfl) ?_
  refine q_iconst C dJ6_bitCount_0f7a4_2 rfl (by decide) (fun v1 => ?_)
  refine q_iushr C dJ6_bitCount_0f7a4_3 (fun v2 => ?_)
  refine q_ldcw C kk_J6_265 dJ6_bitCount_0f7a4_4 (by decide) (fun v3 => ?_)
  refine q_iand C dJ6_bitCount_0f7a4_7 (fun v4 => ?_)
  refine q_isubw C dJ6_bitCount_0f7a4_8 (fun v5 => ?_)
  refine q_istore_n C [(0, .int v5)] dJ6_bitCount_0f7a4_9 rfl hl (by decide) rfl (fun ls hl => ?_)
  refine q_iload_n C dJ6_bitCount_0f7a4_10 rfl (lv_at hl 0 rfl) ?_
  refine q_ldcw C kk_J6_266 dJ6_bitCount_0f7a4_11 (by decide) (fun v6 => ?_)
  refine q_iand C dJ6_bitCount_0f7a4_14 (fun v7 => ?_)
  refine q_iload_n C dJ6_bitCount_0f7a4_15 rfl (lv_at hl 0 rfl) ?_
  refine q_iconst C dJ6_bitCount_0f7a4_16 rfl (by decide) (fun v8 => ?_)
  refine q_iushr C dJ6_bitCount_0f7a4_17 (fun v9 => ?_)
  refine q_ldcw C kk_J6_266 dJ6_bitCount_0f7a4_18 (by decide) (fun v10 => ?_)
  refine q_iand C dJ6_bitCount_0f7a4_21 (fun v11 => ?_)
  refine q_iaddw C dJ6_bitCount_0f7a4_22 (fun v12 => ?_)
  refine q_istore_n C [(0, .int v12)] dJ6_bitCount_0f7a4_23 rfl hl (by decide) rfl (fun ls hl => ?_)
  refine q_iload_n C dJ6_bitCount_0f7a4_24 rfl (lv_at hl 0 rfl) ?_
  refine q_iload_n C dJ6_bitCount_0f7a4_25 rfl (lv_at hl 0 rfl) ?_
  refine q_iconst C dJ6_bitCount_0f7a4_26 rfl (by decide) (fun v13 => ?_)
  refine q_iushr C dJ6_bitCount_0f7a4_27 (fun v14 => ?_)
  refine q_iaddw C dJ6_bitCount_0f7a4_28 (fun v15 => ?_)
  refine q_ldcw C kk_J6_267 dJ6_bitCount_0f7a4_29 (by decide) (fun v16 => ?_)
  refine q_iand C dJ6_bitCount_0f7a4_32 (fun v17 => ?_)
  refine q_istore_n C [(0, .int v17)] dJ6_bitCount_0f7a4_33 rfl hl (by decide) rfl (fun ls hl => ?_)
  refine q_iload_n C dJ6_bitCount_0f7a4_34 rfl (lv_at hl 0 rfl) ?_
  refine q_iload_n C dJ6_bitCount_0f7a4_35 rfl (lv_at hl 0 rfl) ?_
  refine q_bipush C dJ6_bitCount_0f7a4_36 rfl (by decide) (fun v18 => ?_)
  refine q_iushr C dJ6_bitCount_0f7a4_38 (fun v19 => ?_)
  refine q_iaddw C dJ6_bitCount_0f7a4_39 (fun v20 => ?_)
  refine q_istore_n C [(0, .int v20)] dJ6_bitCount_0f7a4_40 rfl hl (by decide) rfl (fun ls hl => ?_)
  refine q_iload_n C dJ6_bitCount_0f7a4_41 rfl (lv_at hl 0 rfl) ?_
  refine q_iload_n C dJ6_bitCount_0f7a4_42 rfl (lv_at hl 0 rfl) ?_
  refine q_bipush C dJ6_bitCount_0f7a4_43 rfl (by decide) (fun v21 => ?_)
  refine q_iushr C dJ6_bitCount_0f7a4_45 (fun v22 => ?_)
  refine q_iaddw C dJ6_bitCount_0f7a4_46 (fun v23 => ?_)
  refine q_istore_n C [(0, .int v23)] dJ6_bitCount_0f7a4_47 rfl hl (by decide) rfl (fun ls hl => ?_)
  refine q_iload_n C dJ6_bitCount_0f7a4_48 rfl (lv_at hl 0 rfl) ?_
  refine q_bipush C dJ6_bitCount_0f7a4_49 rfl (by decide) (fun v24 => ?_)
  refine q_iand C dJ6_bitCount_0f7a4_51 (fun v25 => ?_)
  exact q_iret C hr hlo dJ6_bitCount_0f7a4_52
def f_X3_allRescued_L4 (F : Nat) (k0 : Nat)  (σ : St) : Nat → Int → Int → Option (Int)
  | 0, _, _ => none
  | n + 1, x3, x4 =>
    z_gt (σ k0 3) fun v5 =>
    if v5 ≤ x4 then (
      some x3)
    else (
      z_gt 30 fun v6 =>
      if v6 ≤ x4 then (
        some x3)
      else (
        z_ix x4 30 <|
        z_gt (σ (k0 + 7 + 1 + 3 * x4.toNat) 6) fun v8 =>
        z_c1 (f_J6_bitCount_0f7a4 F v8 σ) fun v9 =>
        z_ck (x3 + v9) fun v10 =>
        z_ck (x4 + 1) fun v11 =>
        f_X3_allRescued_L4 F k0 σ n v10 v11))

def f_X3_allRescued (F : Nat) (k0 : Nat) (σ : St) : Option (Int) :=
  z_ob 3 k0 <| 
  z_gt 0 fun v1 =>
  z_gt 0 fun v2 =>
  f_X3_allRescued_L4 F k0 σ F v1 v2
theorem cb_X3_allRescued : CB yX3_allRescued cX3_allRescued 3 (some .int) 0 := ⟨ki_X3_allRescued, kq_X3_allRescued, kn_X3, kc_X3_allRescued, by decide +kernel, by decide +kernel, by decide +kernel⟩
set_option maxRecDepth 20000 in
set_option maxHeartbeats 4000000 in
theorem m_X3_allRescued (l : Launch) (G : GG) (F : Nat) (k0 : Nat) (σ : St) : ∀ r, f_X3_allRescued F k0 σ = some r → MC G l yX3_allRescued cX3_allRescued 3 (some .int) { frames := 1, cells := 0, slots := 0, locals := 20 } [.ref (gad G k0)] σ (vI r) σ := by
  refine MC_of (own := RX3) (vI) (fun _ => σ) (by decide +kernel) rfl (Nat.le_of_ble_eq_true rfl) ?_
  intro p e s m args below meth c C hr hlo ls hl
  have hl : lv_has ls 3 [(0, .ref (gad G k0))] := hl
  unfold f_X3_allRescued
  refine q_ob (fun hk0 => ?_)
  have B4 : ∀ (n : Nat) (x3 : Int32) (x4 : Int32) (ls : Array Slot), lv_has ls 3 [(0, .ref (gad G k0)), (1, .int x3), (2, .int x4)] → Sim G (AG G) 0 0 p l e { frames := 1, cells := 0, slots := 0, locals := 20 } s m args below meth c (fun r : Int => MQ below (QC G (vI r) (σ)) args s 0 0 (AG G)) σ (f_X3_allRescued_L4 F k0  σ n x3.toInt x4.toInt) (F0 m 4 ls []) := by
    intro n
    induction n with
    | zero =>
      intro x3 x4 ls hl
      exact sim_none
    | succ n ih =>
      intro x3 x4 ls hl
      rw [f_X3_allRescued_L4]
      refine q_iload_n C dX3_allRescued_4 rfl (lv_at hl 2 rfl) ?_
      refine q_aload_n C dX3_allRescued_5 rfl (lv_at hl 0 rfl) ?_
      refine g_3_3 C hk0 kf_X3_64 dX3_allRescued_6 (fun v5 => ?_)
      refine q_icmp_ge C 39 dX3_allRescued_9 (by decide) ?_ ?_
      · refine q_iload_n C dX3_allRescued_39 rfl (lv_at hl 1 rfl) ?_
        exact q_iret C hr hlo dX3_allRescued_40
      · refine q_iload_n C dX3_allRescued_12 rfl (lv_at hl 2 rfl) ?_
        refine q_bipush C dX3_allRescued_13 rfl (by decide) (fun v6 => ?_)
        refine q_icmp_ge C 39 dX3_allRescued_15 (by decide) ?_ ?_
        · refine q_iload_n C dX3_allRescued_39 rfl (lv_at hl 1 rfl) ?_
          exact q_iret C hr hlo dX3_allRescued_40
        · refine q_iload_n C dX3_allRescued_18 rfl (lv_at hl 1 rfl) ?_
          refine q_aload_n C dX3_allRescued_19 rfl (lv_at hl 0 rfl) ?_
          refine g_3_14 C hk0 kf_X3_34 dX3_allRescued_20 ?_
          refine q_iload_n C dX3_allRescued_23 rfl (lv_at hl 2 rfl) ?_
          refine a_ald12 C (yk_3_14 hk0) (yl_3_14 hk0) dX3_allRescued_24 (fun h7 => ?_)
          refine g_1_6 C (ye_12 (yk_3_14 hk0) (i := x4.toInt.toNat) (by omega)) kf_X3_152 dX3_allRescued_25 (fun v8 => ?_)
          refine q_c1i C (fun r h => cr_S (As := [.int v8]) (rest := [.int x3]) C (m_J6_bitCount_0f7a4 l G F v8 σ r h) sb_J6_bitCount_0f7a4 kl_X3_182 ⟨Nat.le_of_ble_eq_true rfl, Nat.le_of_ble_eq_true rfl⟩ ⟨Nat.zero_le _, Nat.zero_le _⟩ hl.1 rfl (Nat.le_of_ble_eq_true rfl) dX3_allRescued_28 rfl) (fun v9 => ?_)
          refine q_iadd C dX3_allRescued_31 (fun v10 => ?_)
          refine q_istore_n C [(1, .int v10), (0, .ref (gad G k0)), (2, .int x4)] dX3_allRescued_32 rfl hl (by decide) rfl (fun ls hl => ?_)
          refine q_iinc (k := 2) C (fun v11 => [(2, .int v11), (1, .int v10), (0, .ref (gad G k0))]) dX3_allRescued_33 hl rfl (by decide) (by decide) (fun _ => rfl) (fun v11 ls hl => ?_)
          refine q_goto C 4 dX3_allRescued_36 (by decide) ?_
          exact ih v10 v11 ls (lv_sub hl [2, 1, 0] rfl)
  refine q_iconst C dX3_allRescued_0 rfl (by decide) (fun v1 => ?_)
  refine q_istore_n C [(1, .int v1), (0, .ref (gad G k0))] dX3_allRescued_1 rfl hl (by decide) rfl (fun ls hl => ?_)
  refine q_iconst C dX3_allRescued_2 rfl (by decide) (fun v2 => ?_)
  refine q_istore_n C [(2, .int v2), (1, .int v1), (0, .ref (gad G k0))] dX3_allRescued_3 rfl hl (by decide) rfl (fun ls hl => ?_)
  exact B4 F v1 v2 ls (lv_sub hl [2, 1, 0] rfl)
def f_X3_lastWhole_L7 (F : Nat) (k0 : Nat)  (σ : St) : Nat → Int → Option (Int)
  | 0, _ => none
  | n + 1, x4 =>
    if x4 < 0 then (
      z_gt (-1) fun v5 =>
      some v5)
    else (
      z_c1 (f_X3_isWhole F k0 x4 σ) fun v6 =>
      if v6 = 0 then (
        z_ck (x4 + (-1)) fun v7 =>
        f_X3_lastWhole_L7 F k0 σ n v7)
      else (
        some x4))

def f_X3_lastWhole (F : Nat) (k0 : Nat) (σ : St) : Option (Int) :=
  z_ob 3 k0 <| 
  z_gt (σ k0 3) fun v1 =>
  z_gt 1 fun v2 =>
  z_ck (v1 - v2) fun v3 =>
  f_X3_lastWhole_L7 F k0 σ F v3
theorem cb_X3_lastWhole : CB yX3_lastWhole cX3_lastWhole 2 (some .int) 0 := ⟨ki_X3_lastWhole, kq_X3_lastWhole, kn_X3, kc_X3_lastWhole, by decide +kernel, by decide +kernel, by decide +kernel⟩
set_option maxRecDepth 20000 in
set_option maxHeartbeats 4000000 in
theorem m_X3_lastWhole (l : Launch) (G : GG) (F : Nat) (k0 : Nat) (σ : St) : ∀ r, f_X3_lastWhole F k0 σ = some r → MC G l yX3_lastWhole cX3_lastWhole 2 (some .int) { frames := 2, cells := 0, slots := 0, locals := 43 } [.ref (gad G k0)] σ (vI r) σ := by
  refine MC_of (own := RX3) (vI) (fun _ => σ) (by decide +kernel) rfl (Nat.le_of_ble_eq_true rfl) ?_
  intro p e s m args below meth c C hr hlo ls hl
  have hl : lv_has ls 2 [(0, .ref (gad G k0))] := hl
  unfold f_X3_lastWhole
  refine q_ob (fun hk0 => ?_)
  have B7 : ∀ (n : Nat) (x4 : Int32) (ls : Array Slot), lv_has ls 2 [(0, .ref (gad G k0)), (1, .int x4)] → Sim G (AG G) 0 0 p l e { frames := 2, cells := 0, slots := 0, locals := 43 } s m args below meth c (fun r : Int => MQ below (QC G (vI r) (σ)) args s 0 0 (AG G)) σ (f_X3_lastWhole_L7 F k0  σ n x4.toInt) (F0 m 7 ls []) := by
    intro n
    induction n with
    | zero =>
      intro x4 ls hl
      exact sim_none
    | succ n ih =>
      intro x4 ls hl
      rw [f_X3_lastWhole_L7]
      refine q_iload_n C dX3_lastWhole_7 rfl (lv_at hl 1 rfl) ?_
      refine q_if_lt C 27 dX3_lastWhole_8 (by decide) ?_ ?_
      · refine q_iconst C dX3_lastWhole_27 rfl (by decide) (fun v5 => ?_)
        exact q_iret C hr hlo dX3_lastWhole_28
      · refine q_aload_n C dX3_lastWhole_11 rfl (lv_at hl 0 rfl) ?_
        refine q_iload_n C dX3_lastWhole_12 rfl (lv_at hl 1 rfl) ?_
        refine q_c1i C (fun r h => cr_V (As := [.int x4]) (rest := []) C (m_X3_isWhole l G F k0 x4 σ r h) cb_X3_isWhole hk0 (by decide) rfl (cf_3 hk0 _) rfl kl_X3_187 ⟨Nat.le_of_ble_eq_true rfl, Nat.le_of_ble_eq_true rfl⟩ ⟨Nat.zero_le _, Nat.zero_le _⟩ hl.1 rfl (Nat.le_of_ble_eq_true rfl) dX3_lastWhole_13 rfl) (fun v6 => ?_)
        refine q_if_eq C 21 dX3_lastWhole_16 (by decide) ?_ ?_
        · refine q_iinc (k := 1) C (fun v7 => [(1, .int v7), (0, .ref (gad G k0))]) dX3_lastWhole_21 hl rfl (by decide) (by decide) (fun _ => rfl) (fun v7 ls hl => ?_)
          refine q_goto C 7 dX3_lastWhole_24 (by decide) ?_
          exact ih v7 ls (lv_sub hl [1, 0] rfl)
        · refine q_iload_n C dX3_lastWhole_19 rfl (lv_at hl 1 rfl) ?_
          exact q_iret C hr hlo dX3_lastWhole_20
  refine q_aload_n C dX3_lastWhole_0 rfl (lv_at hl 0 rfl) ?_
  refine g_3_3 C hk0 kf_X3_64 dX3_lastWhole_1 (fun v1 => ?_)
  refine q_iconst C dX3_lastWhole_4 rfl (by decide) (fun v2 => ?_)
  refine q_isub C dX3_lastWhole_5 (fun v3 => ?_)
  refine q_istore_n C [(1, .int v3), (0, .ref (gad G k0))] dX3_lastWhole_6 rfl hl (by decide) rfl (fun ls hl => ?_)
  exact B7 F v3 ls (lv_sub hl [1, 0] rfl)
def f_X3_chainHead_L7 (F : Nat) (k0 : Nat)  (σ : St) : Nat → Int → Option (Int)
  | 0, _ => none
  | n + 1, x4 =>
    if x4 < 0 then (
      z_gt (-1) fun v5 =>
      some v5)
    else (
      z_c1 (f_X3_isWhole F k0 x4 σ) fun v6 =>
      if v6 = 0 then (
        z_ck (x4 + (-1)) fun v7 =>
        f_X3_chainHead_L7 F k0 σ n v7)
      else (
        z_ix x4 30 <|
        z_gt (σ (k0 + 7 + 1 + 3 * x4.toNat) 0) fun v9 =>
        if v9 = 0 then (
          z_ck (x4 + (-1)) fun v10 =>
          f_X3_chainHead_L7 F k0 σ n v10)
        else (
          some x4)))

def f_X3_chainHead (F : Nat) (k0 : Nat) (σ : St) : Option (Int) :=
  z_ob 3 k0 <| 
  z_gt (σ k0 3) fun v1 =>
  z_gt 1 fun v2 =>
  z_ck (v1 - v2) fun v3 =>
  f_X3_chainHead_L7 F k0 σ F v3
theorem cb_X3_chainHead : CB yX3_chainHead cX3_chainHead 2 (some .int) 0 := ⟨ki_X3_chainHead, kq_X3_chainHead, kn_X3, kc_X3_chainHead, by decide +kernel, by decide +kernel, by decide +kernel⟩
set_option maxRecDepth 20000 in
set_option maxHeartbeats 4000000 in
theorem m_X3_chainHead (l : Launch) (G : GG) (F : Nat) (k0 : Nat) (σ : St) : ∀ r, f_X3_chainHead F k0 σ = some r → MC G l yX3_chainHead cX3_chainHead 2 (some .int) { frames := 2, cells := 0, slots := 0, locals := 43 } [.ref (gad G k0)] σ (vI r) σ := by
  refine MC_of (own := RX3) (vI) (fun _ => σ) (by decide +kernel) rfl (Nat.le_of_ble_eq_true rfl) ?_
  intro p e s m args below meth c C hr hlo ls hl
  have hl : lv_has ls 2 [(0, .ref (gad G k0))] := hl
  unfold f_X3_chainHead
  refine q_ob (fun hk0 => ?_)
  have B7 : ∀ (n : Nat) (x4 : Int32) (ls : Array Slot), lv_has ls 2 [(0, .ref (gad G k0)), (1, .int x4)] → Sim G (AG G) 0 0 p l e { frames := 2, cells := 0, slots := 0, locals := 43 } s m args below meth c (fun r : Int => MQ below (QC G (vI r) (σ)) args s 0 0 (AG G)) σ (f_X3_chainHead_L7 F k0  σ n x4.toInt) (F0 m 7 ls []) := by
    intro n
    induction n with
    | zero =>
      intro x4 ls hl
      exact sim_none
    | succ n ih =>
      intro x4 ls hl
      rw [f_X3_chainHead_L7]
      refine q_iload_n C dX3_chainHead_7 rfl (lv_at hl 1 rfl) ?_
      refine q_if_lt C 39 dX3_chainHead_8 (by decide) ?_ ?_
      · refine q_iconst C dX3_chainHead_39 rfl (by decide) (fun v5 => ?_)
        exact q_iret C hr hlo dX3_chainHead_40
      · refine q_aload_n C dX3_chainHead_11 rfl (lv_at hl 0 rfl) ?_
        refine q_iload_n C dX3_chainHead_12 rfl (lv_at hl 1 rfl) ?_
        refine q_c1i C (fun r h => cr_V (As := [.int x4]) (rest := []) C (m_X3_isWhole l G F k0 x4 σ r h) cb_X3_isWhole hk0 (by decide) rfl (cf_3 hk0 _) rfl kl_X3_187 ⟨Nat.le_of_ble_eq_true rfl, Nat.le_of_ble_eq_true rfl⟩ ⟨Nat.zero_le _, Nat.zero_le _⟩ hl.1 rfl (Nat.le_of_ble_eq_true rfl) dX3_chainHead_13 rfl) (fun v6 => ?_)
        refine q_if_eq C 33 dX3_chainHead_16 (by decide) ?_ ?_
        · refine q_iinc (k := 1) C (fun v7 => [(1, .int v7), (0, .ref (gad G k0))]) dX3_chainHead_33 hl rfl (by decide) (by decide) (fun _ => rfl) (fun v7 ls hl => ?_)
          refine q_goto C 7 dX3_chainHead_36 (by decide) ?_
          exact ih v7 ls (lv_sub hl [1, 0] rfl)
        · refine q_aload_n C dX3_chainHead_19 rfl (lv_at hl 0 rfl) ?_
          refine g_3_14 C hk0 kf_X3_34 dX3_chainHead_20 ?_
          refine q_iload_n C dX3_chainHead_23 rfl (lv_at hl 1 rfl) ?_
          refine a_ald12 C (yk_3_14 hk0) (yl_3_14 hk0) dX3_chainHead_24 (fun h8 => ?_)
          refine g_1_0 C (ye_12 (yk_3_14 hk0) (i := x4.toInt.toNat) (by omega)) kf_X3_191 dX3_chainHead_25 (fun v9 => ?_)
          refine q_if_eq C 33 dX3_chainHead_28 (by decide) ?_ ?_
          · refine q_iinc (k := 1) C (fun v10 => [(1, .int v10), (0, .ref (gad G k0))]) dX3_chainHead_33 hl rfl (by decide) (by decide) (fun _ => rfl) (fun v10 ls hl => ?_)
            refine q_goto C 7 dX3_chainHead_36 (by decide) ?_
            exact ih v10 ls (lv_sub hl [1, 0] rfl)
          · refine q_iload_n C dX3_chainHead_31 rfl (lv_at hl 1 rfl) ?_
            exact q_iret C hr hlo dX3_chainHead_32
  refine q_aload_n C dX3_chainHead_0 rfl (lv_at hl 0 rfl) ?_
  refine g_3_3 C hk0 kf_X3_64 dX3_chainHead_1 (fun v1 => ?_)
  refine q_iconst C dX3_chainHead_4 rfl (by decide) (fun v2 => ?_)
  refine q_isub C dX3_chainHead_5 (fun v3 => ?_)
  refine q_istore_n C [(1, .int v3), (0, .ref (gad G k0))] dX3_chainHead_6 rfl hl (by decide) rfl (fun ls hl => ?_)
  exact B7 F v3 ls (lv_sub hl [1, 0] rfl)
def f_X3_links_L9 (F : Nat) (k0 : Nat)  (σ : St) : Nat → Int → Int → Int → Option (Int)
  | 0, _, _, _ => none
  | n + 1, x3, x4, x5 =>
    z_gt (-1) fun v6 =>
    if x3 = v6 then (
      some x4)
    else (
      z_gt (σ k0 3) fun v7 =>
      if v7 ≤ x5 then (
        some x4)
      else (
        z_c1 (f_X3_isWhole F k0 x5 σ) fun v8 =>
        if v8 = 0 then (
          z_ck (x5 + 1) fun v9 =>
          f_X3_links_L9 F k0 σ n x3 x4 v9)
        else (
          z_ck (x4 + 1) fun v10 =>
          z_ck (x5 + 1) fun v11 =>
          f_X3_links_L9 F k0 σ n x3 v10 v11)))

def f_X3_links (F : Nat) (k0 : Nat) (σ : St) : Option (Int) :=
  z_ob 3 k0 <| 
  z_c1 (f_X3_chainHead F k0 σ) fun v1 =>
  z_gt 0 fun v2 =>
  f_X3_links_L9 F k0 σ F v1 v2 v1
theorem cb_X3_links : CB yX3_links cX3_links 4 (some .int) 0 := ⟨ki_X3_links, kq_X3_links, kn_X3, kc_X3_links, by decide +kernel, by decide +kernel, by decide +kernel⟩
set_option maxRecDepth 20000 in
set_option maxHeartbeats 4000000 in
theorem m_X3_links (l : Launch) (G : GG) (F : Nat) (k0 : Nat) (σ : St) : ∀ r, f_X3_links F k0 σ = some r → MC G l yX3_links cX3_links 4 (some .int) { frames := 3, cells := 0, slots := 0, locals := 64 } [.ref (gad G k0)] σ (vI r) σ := by
  refine MC_of (own := RX3) (vI) (fun _ => σ) (by decide +kernel) rfl (Nat.le_of_ble_eq_true rfl) ?_
  intro p e s m args below meth c C hr hlo ls hl
  have hl : lv_has ls 4 [(0, .ref (gad G k0))] := hl
  unfold f_X3_links
  refine q_ob (fun hk0 => ?_)
  have B9 : ∀ (n : Nat) (x3 : Int32) (x4 : Int32) (x5 : Int32) (ls : Array Slot), lv_has ls 4 [(0, .ref (gad G k0)), (1, .int x3), (2, .int x4), (3, .int x5)] → Sim G (AG G) 0 0 p l e { frames := 3, cells := 0, slots := 0, locals := 64 } s m args below meth c (fun r : Int => MQ below (QC G (vI r) (σ)) args s 0 0 (AG G)) σ (f_X3_links_L9 F k0  σ n x3.toInt x4.toInt x5.toInt) (F0 m 9 ls []) := by
    intro n
    induction n with
    | zero =>
      intro x3 x4 x5 ls hl
      exact sim_none
    | succ n ih =>
      intro x3 x4 x5 ls hl
      rw [f_X3_links_L9]
      refine q_iload_n C dX3_links_9 rfl (lv_at hl 1 rfl) ?_
      refine q_iconst C dX3_links_10 rfl (by decide) (fun v6 => ?_)
      refine q_icmp_eq C 39 dX3_links_11 (by decide) ?_ ?_
      · refine q_iload_n C dX3_links_39 rfl (lv_at hl 2 rfl) ?_
        exact q_iret C hr hlo dX3_links_40
      · refine q_iload_n C dX3_links_14 rfl (lv_at hl 3 rfl) ?_
        refine q_aload_n C dX3_links_15 rfl (lv_at hl 0 rfl) ?_
        refine g_3_3 C hk0 kf_X3_64 dX3_links_16 (fun v7 => ?_)
        refine q_icmp_ge C 39 dX3_links_19 (by decide) ?_ ?_
        · refine q_iload_n C dX3_links_39 rfl (lv_at hl 2 rfl) ?_
          exact q_iret C hr hlo dX3_links_40
        · refine q_aload_n C dX3_links_22 rfl (lv_at hl 0 rfl) ?_
          refine q_iload_n C dX3_links_23 rfl (lv_at hl 3 rfl) ?_
          refine q_c1i C (fun r h => cr_V (As := [.int x5]) (rest := []) C (m_X3_isWhole l G F k0 x5 σ r h) cb_X3_isWhole hk0 (by decide) rfl (cf_3 hk0 _) rfl kl_X3_187 ⟨Nat.le_of_ble_eq_true rfl, Nat.le_of_ble_eq_true rfl⟩ ⟨Nat.zero_le _, Nat.zero_le _⟩ hl.1 rfl (Nat.le_of_ble_eq_true rfl) dX3_links_24 rfl) (fun v8 => ?_)
          refine q_if_eq C 33 dX3_links_27 (by decide) ?_ ?_
          · refine q_iinc (k := 3) C (fun v9 => [(3, .int v9), (0, .ref (gad G k0)), (1, .int x3), (2, .int x4)]) dX3_links_33 hl rfl (by decide) (by decide) (fun _ => rfl) (fun v9 ls hl => ?_)
            refine q_goto C 9 dX3_links_36 (by decide) ?_
            exact ih x3 x4 v9 ls (lv_sub hl [1, 2, 3, 0] rfl)
          · refine q_iinc (k := 2) C (fun v10 => [(2, .int v10), (0, .ref (gad G k0)), (1, .int x3), (3, .int x5)]) dX3_links_30 hl rfl (by decide) (by decide) (fun _ => rfl) (fun v10 ls hl => ?_)
            refine q_iinc (k := 3) C (fun v11 => [(3, .int v11), (2, .int v10), (0, .ref (gad G k0)), (1, .int x3)]) dX3_links_33 hl rfl (by decide) (by decide) (fun _ => rfl) (fun v11 ls hl => ?_)
            refine q_goto C 9 dX3_links_36 (by decide) ?_
            exact ih x3 v10 v11 ls (lv_sub hl [2, 3, 1, 0] rfl)
  refine q_aload_n C dX3_links_0 rfl (lv_at hl 0 rfl) ?_
  refine q_c1i C (fun r h => cr_V (As := []) (rest := []) C (m_X3_chainHead l G F k0 σ r h) cb_X3_chainHead hk0 (by decide) rfl (cf_3 hk0 _) rfl kl_X3_194 ⟨Nat.le_of_ble_eq_true rfl, Nat.le_of_ble_eq_true rfl⟩ ⟨Nat.zero_le _, Nat.zero_le _⟩ hl.1 rfl (Nat.le_of_ble_eq_true rfl) dX3_links_1 rfl) (fun v1 => ?_)
  refine q_istore_n C [(1, .int v1), (0, .ref (gad G k0))] dX3_links_4 rfl hl (by decide) rfl (fun ls hl => ?_)
  refine q_iconst C dX3_links_5 rfl (by decide) (fun v2 => ?_)
  refine q_istore_n C [(2, .int v2), (1, .int v1), (0, .ref (gad G k0))] dX3_links_6 rfl hl (by decide) rfl (fun ls hl => ?_)
  refine q_iload_n C dX3_links_7 rfl (lv_at hl 1 rfl) ?_
  refine q_istore_n C [(3, .int v1), (2, .int v2), (1, .int v1), (0, .ref (gad G k0))] dX3_links_8 rfl hl (by decide) rfl (fun ls hl => ?_)
  exact B9 F v1 v2 v1 ls (lv_sub hl [3, 2, 1, 0] rfl)
def f_X3_link_L10 (F : Nat) (k0 : Nat) (a1 : Int)  (σ : St) : Nat → Int → Int → Int → Option (Int)
  | 0, _, _, _ => none
  | n + 1, x2, x3, x4 =>
    z_gt (-1) fun v5 =>
    if x2 = v5 then (
      z_gt (-1) fun v6 =>
      some v6)
    else (
      z_gt (σ k0 3) fun v7 =>
      if v7 ≤ x4 then (
        z_gt (-1) fun v8 =>
        some v8)
      else (
        z_c1 (f_X3_isWhole F k0 x4 σ) fun v9 =>
        if v9 = 0 then (
          z_ck (x4 + 1) fun v10 =>
          f_X3_link_L10 F k0 a1 σ n x2 x3 v10)
        else (
          if ¬ x3 = 0 then (
            z_ck (x3 + (-1)) fun v11 =>
            z_ck (x4 + 1) fun v12 =>
            f_X3_link_L10 F k0 a1 σ n x2 v11 v12)
          else (
            some x4))))

def f_X3_link (F : Nat) (k0 : Nat) (a1 : Int) (σ : St) : Option (Int) :=
  z_ob 3 k0 <| 
  z_c1 (f_X3_chainHead F k0 σ) fun v1 =>
  f_X3_link_L10 F k0 a1 σ F v1 a1 v1
theorem cb_X3_link : CB yX3_link cX3_link 5 (some .int) 1 := ⟨ki_X3_link, kq_X3_link, kn_X3, kc_X3_link, by decide +kernel, by decide +kernel, by decide +kernel⟩
set_option maxRecDepth 20000 in
set_option maxHeartbeats 4000000 in
theorem m_X3_link (l : Launch) (G : GG) (F : Nat) (k0 : Nat) (a1 : Int32) (σ : St) : ∀ r, f_X3_link F k0 a1.toInt σ = some r → MC G l yX3_link cX3_link 5 (some .int) { frames := 3, cells := 0, slots := 0, locals := 64 } [.ref (gad G k0), .int a1] σ (vI r) σ := by
  refine MC_of (own := RX3) (vI) (fun _ => σ) (by decide +kernel) rfl (Nat.le_of_ble_eq_true rfl) ?_
  intro p e s m args below meth c C hr hlo ls hl
  have hl : lv_has ls 5 [(0, .ref (gad G k0)), (1, .int a1)] := hl
  unfold f_X3_link
  refine q_ob (fun hk0 => ?_)
  have B10 : ∀ (n : Nat) (x2 : Int32) (x3 : Int32) (x4 : Int32) (ls : Array Slot), lv_has ls 5 [(0, .ref (gad G k0)), (2, .int x2), (3, .int x3), (4, .int x4)] → Sim G (AG G) 0 0 p l e { frames := 3, cells := 0, slots := 0, locals := 64 } s m args below meth c (fun r : Int => MQ below (QC G (vI r) (σ)) args s 0 0 (AG G)) σ (f_X3_link_L10 F k0 a1.toInt  σ n x2.toInt x3.toInt x4.toInt) (F0 m 10 ls []) := by
    intro n
    induction n with
    | zero =>
      intro x2 x3 x4 ls hl
      exact sim_none
    | succ n ih =>
      intro x2 x3 x4 ls hl
      rw [f_X3_link_L10]
      refine q_iload_n C dX3_link_10 rfl (lv_at hl 1 rfl) ?_
      refine q_iconst C dX3_link_11 rfl (by decide) (fun v5 => ?_)
      refine q_icmp_eq C 49 dX3_link_12 (by decide) ?_ ?_
      · refine q_iconst C dX3_link_49 rfl (by decide) (fun v6 => ?_)
        exact q_iret C hr hlo dX3_link_50
      · refine q_iload C dX3_link_15 (lv_at hl 3 rfl) ?_
        refine q_aload_n C dX3_link_17 rfl (lv_at hl 0 rfl) ?_
        refine g_3_3 C hk0 kf_X3_64 dX3_link_18 (fun v7 => ?_)
        refine q_icmp_ge C 49 dX3_link_21 (by decide) ?_ ?_
        · refine q_iconst C dX3_link_49 rfl (by decide) (fun v8 => ?_)
          exact q_iret C hr hlo dX3_link_50
        · refine q_aload_n C dX3_link_24 rfl (lv_at hl 0 rfl) ?_
          refine q_iload C dX3_link_25 (lv_at hl 3 rfl) ?_
          refine q_c1i C (fun r h => cr_V (As := [.int x4]) (rest := []) C (m_X3_isWhole l G F k0 x4 σ r h) cb_X3_isWhole hk0 (by decide) rfl (cf_3 hk0 _) rfl kl_X3_187 ⟨Nat.le_of_ble_eq_true rfl, Nat.le_of_ble_eq_true rfl⟩ ⟨Nat.zero_le _, Nat.zero_le _⟩ hl.1 rfl (Nat.le_of_ble_eq_true rfl) dX3_link_27 rfl) (fun v9 => ?_)
          refine q_if_eq C 43 dX3_link_30 (by decide) ?_ ?_
          · refine q_iinc (k := 3) C (fun v10 => [(4, .int v10), (0, .ref (gad G k0)), (2, .int x2), (3, .int x3)]) dX3_link_43 hl rfl (by decide) (by decide) (fun _ => rfl) (fun v10 ls hl => ?_)
            refine q_goto C 10 dX3_link_46 (by decide) ?_
            exact ih x2 x3 v10 ls (lv_sub hl [1, 2, 3, 0] rfl)
          · refine q_iload_n C dX3_link_33 rfl (lv_at hl 2 rfl) ?_
            refine q_if_ne C 40 dX3_link_34 (by decide) ?_ ?_
            · refine q_iinc (k := 2) C (fun v11 => [(3, .int v11), (0, .ref (gad G k0)), (2, .int x2), (4, .int x4)]) dX3_link_40 hl rfl (by decide) (by decide) (fun _ => rfl) (fun v11 ls hl => ?_)
              refine q_iinc (k := 3) C (fun v12 => [(4, .int v12), (3, .int v11), (0, .ref (gad G k0)), (2, .int x2)]) dX3_link_43 hl rfl (by decide) (by decide) (fun _ => rfl) (fun v12 ls hl => ?_)
              refine q_goto C 10 dX3_link_46 (by decide) ?_
              exact ih x2 v11 v12 ls (lv_sub hl [2, 3, 1, 0] rfl)
            · refine q_iload C dX3_link_37 (lv_at hl 3 rfl) ?_
              exact q_iret C hr hlo dX3_link_39
  refine q_aload_n C dX3_link_0 rfl (lv_at hl 0 rfl) ?_
  refine q_c1i C (fun r h => cr_V (As := []) (rest := []) C (m_X3_chainHead l G F k0 σ r h) cb_X3_chainHead hk0 (by decide) rfl (cf_3 hk0 _) rfl kl_X3_194 ⟨Nat.le_of_ble_eq_true rfl, Nat.le_of_ble_eq_true rfl⟩ ⟨Nat.zero_le _, Nat.zero_le _⟩ hl.1 rfl (Nat.le_of_ble_eq_true rfl) dX3_link_1 rfl) (fun v1 => ?_)
  refine q_istore_n C [(2, .int v1), (0, .ref (gad G k0)), (1, .int a1)] dX3_link_4 rfl hl (by decide) rfl (fun ls hl => ?_)
  refine q_iload_n C dX3_link_5 rfl (lv_at hl 2 rfl) ?_
  refine q_istore_n C [(3, .int a1), (2, .int v1), (0, .ref (gad G k0)), (1, .int a1)] dX3_link_6 rfl hl (by decide) rfl (fun ls hl => ?_)
  refine q_iload_n C dX3_link_7 rfl (lv_at hl 1 rfl) ?_
  refine q_istore C [(4, .int v1), (3, .int a1), (2, .int v1), (0, .ref (gad G k0)), (1, .int a1)] dX3_link_8 hl (by decide) rfl (fun ls hl => ?_)
  exact B10 F v1 a1 v1 ls (lv_sub hl [3, 2, 1, 0] rfl)
def f_X3_chainMark (F : Nat) (k0 : Nat) (σ : St) : Option (Int) :=
  z_ob 3 k0 <| 
  z_c1 (f_X3_chainHead F k0 σ) fun v1 =>
  z_gt (-1) fun v2 =>
  if ¬ v1 = v2 then (
    z_c1 (f_X3_lastWhole F k0 σ) fun v3 =>
    z_ca (f_X3_copyOf F k0 v3 σ) (
      z_gt 0 fun v5 =>
      some v5) fun k4 => z_ob 1 k4 <|
    z_gt (σ k4 1) fun v6 =>
    some v6)
  else (
    z_gt 0 fun v7 =>
    some v7)
theorem cb_X3_chainMark : CB yX3_chainMark cX3_chainMark 2 (some .int) 0 := ⟨ki_X3_chainMark, kq_X3_chainMark, kn_X3, kc_X3_chainMark, by decide +kernel, by decide +kernel, by decide +kernel⟩
set_option maxRecDepth 20000 in
set_option maxHeartbeats 4000000 in
theorem m_X3_chainMark (l : Launch) (G : GG) (F : Nat) (k0 : Nat) (σ : St) : ∀ r, f_X3_chainMark F k0 σ = some r → MC G l yX3_chainMark cX3_chainMark 2 (some .int) { frames := 3, cells := 0, slots := 0, locals := 64 } [.ref (gad G k0)] σ (vI r) σ := by
  refine MC_of (own := RX3) (vI) (fun _ => σ) (by decide +kernel) rfl (Nat.le_of_ble_eq_true rfl) ?_
  intro p e s m args below meth c C hr hlo ls hl
  have hl : lv_has ls 2 [(0, .ref (gad G k0))] := hl
  unfold f_X3_chainMark
  refine q_ob (fun hk0 => ?_)
  refine q_aload_n C dX3_chainMark_0 rfl (lv_at hl 0 rfl) ?_
  refine q_c1i C (fun r h => cr_V (As := []) (rest := []) C (m_X3_chainHead l G F k0 σ r h) cb_X3_chainHead hk0 (by decide) rfl (cf_3 hk0 _) rfl kl_X3_194 ⟨Nat.le_of_ble_eq_true rfl, Nat.le_of_ble_eq_true rfl⟩ ⟨Nat.zero_le _, Nat.zero_le _⟩ hl.1 rfl (Nat.le_of_ble_eq_true rfl) dX3_chainMark_1 rfl) (fun v1 => ?_)
  refine q_iconst C dX3_chainMark_4 rfl (by decide) (fun v2 => ?_)
  refine q_icmp_ne C 12 dX3_chainMark_5 (by decide) ?_ ?_
  · refine q_aload_n C dX3_chainMark_12 rfl (lv_at hl 0 rfl) ?_
    refine q_aload_n C dX3_chainMark_13 rfl (lv_at hl 0 rfl) ?_
    refine q_c1i C (fun r h => cr_V (As := []) (rest := [.ref (gad G k0)]) C (m_X3_lastWhole l G F k0 σ r h) cb_X3_lastWhole hk0 (by decide) rfl (cf_3 hk0 _) rfl kl_X3_197 ⟨Nat.le_of_ble_eq_true rfl, Nat.le_of_ble_eq_true rfl⟩ ⟨Nat.zero_le _, Nat.zero_le _⟩ hl.1 rfl (Nat.le_of_ble_eq_true rfl) dX3_chainMark_14 rfl) (fun v3 => ?_)
    refine q_ca C (fun r h => cr_V (As := [.int v3]) (rest := []) C (m_X3_copyOf l G F k0 v3 σ r h) cb_X3_copyOf hk0 (by decide) rfl (cf_3 hk0 _) rfl kl_X3_145 ⟨Nat.le_of_ble_eq_true rfl, Nat.le_of_ble_eq_true rfl⟩ ⟨Nat.zero_le _, Nat.zero_le _⟩ hl.1 rfl (Nat.le_of_ble_eq_true rfl) dX3_chainMark_17 rfl) ?_ (fun k4 => q_ob (fun hk4 => ?_))
    · refine q_astore_nN C [(1, .null), (0, .ref (gad G k0))] dX3_chainMark_20 rfl hl (by decide) rfl (fun ls hl => ?_)
      refine q_aload_nN C dX3_chainMark_21 rfl (lv_at hl 0 rfl) ?_
      refine q_ifnonnullN C dX3_chainMark_22 ?_
      refine q_iconst C dX3_chainMark_25 rfl (by decide) (fun v5 => ?_)
      refine q_goto C 33 dX3_chainMark_26 (by decide) ?_
      exact q_iret C hr hlo dX3_chainMark_33
    · refine q_astore_n C [(1, .ref (gad G k4)), (0, .ref (gad G k0))] dX3_chainMark_20 rfl hl (by decide) rfl (fun ls hl => ?_)
      refine q_aload_n C dX3_chainMark_21 rfl (lv_at hl 0 rfl) ?_
      refine q_ifnonnull C 29 dX3_chainMark_22 (by decide) ?_
      refine q_aload_n C dX3_chainMark_29 rfl (lv_at hl 0 rfl) ?_
      refine g_1_1 C hk4 kf_X3_173 dX3_chainMark_30 (fun v6 => ?_)
      exact q_iret C hr hlo dX3_chainMark_33
  · refine q_null C dX3_chainMark_8 ?_
    refine q_goto C 20 dX3_chainMark_9 (by decide) ?_
    refine q_astore_nN C [(1, .null), (0, .ref (gad G k0))] dX3_chainMark_20 rfl hl (by decide) rfl (fun ls hl => ?_)
    refine q_aload_nN C dX3_chainMark_21 rfl (lv_at hl 0 rfl) ?_
    refine q_ifnonnullN C dX3_chainMark_22 ?_
    refine q_iconst C dX3_chainMark_25 rfl (by decide) (fun v7 => ?_)
    refine q_goto C 33 dX3_chainMark_26 (by decide) ?_
    exact q_iret C hr hlo dX3_chainMark_33
def f_X3_sourceOf_L12 (F : Nat) (k0 : Nat) (a1 : Int)  (σ : St) : Nat → Int → Int → Option (Int)
  | 0, _, _ => none
  | n + 1, x5, x6 =>
    z_gt (-1) fun v7 =>
    if x5 = v7 then (
      z_gt (-1) fun v8 =>
      some v8)
    else (
      if x6 < x5 then (
        z_gt (-1) fun v9 =>
        some v9)
      else (
        z_c1 (f_X3_isWhole F k0 x6 σ) fun v10 =>
        if v10 = 0 then (
          z_ck (x6 + (-1)) fun v11 =>
          f_X3_sourceOf_L12 F k0 a1 σ n x5 v11)
        else (
          z_ix x6 30 <|
          z_gt (σ (k0 + 7 + 1 + 3 * x6.toNat) 5) fun v13 =>
          z_c1 (f_X6_holds F v13 a1 σ) fun v14 =>
          if v14 = 0 then (
            z_ck (x6 + (-1)) fun v15 =>
            f_X3_sourceOf_L12 F k0 a1 σ n x5 v15)
          else (
            some x6))))

def f_X3_sourceOf (F : Nat) (k0 : Nat) (a1 : Int) (σ : St) : Option (Int) :=
  z_ob 3 k0 <| 
  z_c1 (f_X3_chainHead F k0 σ) fun v1 =>
  z_gt (σ k0 3) fun v2 =>
  z_gt 1 fun v3 =>
  z_ck (v2 - v3) fun v4 =>
  f_X3_sourceOf_L12 F k0 a1 σ F v1 v4
theorem cb_X3_sourceOf : CB yX3_sourceOf cX3_sourceOf 4 (some .int) 1 := ⟨ki_X3_sourceOf, kq_X3_sourceOf, kn_X3, kc_X3_sourceOf, by decide +kernel, by decide +kernel, by decide +kernel⟩
set_option maxRecDepth 20000 in
set_option maxHeartbeats 4000000 in
theorem m_X3_sourceOf (l : Launch) (G : GG) (F : Nat) (k0 : Nat) (a1 : Int32) (σ : St) : ∀ r, f_X3_sourceOf F k0 a1.toInt σ = some r → MC G l yX3_sourceOf cX3_sourceOf 4 (some .int) { frames := 3, cells := 0, slots := 0, locals := 64 } [.ref (gad G k0), .int a1] σ (vI r) σ := by
  refine MC_of (own := RX3) (vI) (fun _ => σ) (by decide +kernel) rfl (Nat.le_of_ble_eq_true rfl) ?_
  intro p e s m args below meth c C hr hlo ls hl
  have hl : lv_has ls 4 [(0, .ref (gad G k0)), (1, .int a1)] := hl
  unfold f_X3_sourceOf
  refine q_ob (fun hk0 => ?_)
  have B12 : ∀ (n : Nat) (x5 : Int32) (x6 : Int32) (ls : Array Slot), lv_has ls 4 [(0, .ref (gad G k0)), (1, .int a1), (2, .int x5), (3, .int x6)] → Sim G (AG G) 0 0 p l e { frames := 3, cells := 0, slots := 0, locals := 64 } s m args below meth c (fun r : Int => MQ below (QC G (vI r) (σ)) args s 0 0 (AG G)) σ (f_X3_sourceOf_L12 F k0 a1.toInt  σ n x5.toInt x6.toInt) (F0 m 12 ls []) := by
    intro n
    induction n with
    | zero =>
      intro x5 x6 ls hl
      exact sim_none
    | succ n ih =>
      intro x5 x6 ls hl
      rw [f_X3_sourceOf_L12]
      refine q_iload_n C dX3_sourceOf_12 rfl (lv_at hl 2 rfl) ?_
      refine q_iconst C dX3_sourceOf_13 rfl (by decide) (fun v7 => ?_)
      refine q_icmp_eq C 54 dX3_sourceOf_14 (by decide) ?_ ?_
      · refine q_iconst C dX3_sourceOf_54 rfl (by decide) (fun v8 => ?_)
        exact q_iret C hr hlo dX3_sourceOf_55
      · refine q_iload_n C dX3_sourceOf_17 rfl (lv_at hl 3 rfl) ?_
        refine q_iload_n C dX3_sourceOf_18 rfl (lv_at hl 2 rfl) ?_
        refine q_icmp_lt C 54 dX3_sourceOf_19 (by decide) ?_ ?_
        · refine q_iconst C dX3_sourceOf_54 rfl (by decide) (fun v9 => ?_)
          exact q_iret C hr hlo dX3_sourceOf_55
        · refine q_aload_n C dX3_sourceOf_22 rfl (lv_at hl 0 rfl) ?_
          refine q_iload_n C dX3_sourceOf_23 rfl (lv_at hl 3 rfl) ?_
          refine q_c1i C (fun r h => cr_V (As := [.int x6]) (rest := []) C (m_X3_isWhole l G F k0 x6 σ r h) cb_X3_isWhole hk0 (by decide) rfl (cf_3 hk0 _) rfl kl_X3_187 ⟨Nat.le_of_ble_eq_true rfl, Nat.le_of_ble_eq_true rfl⟩ ⟨Nat.zero_le _, Nat.zero_le _⟩ hl.1 rfl (Nat.le_of_ble_eq_true rfl) dX3_sourceOf_24 rfl) (fun v10 => ?_)
          refine q_if_eq C 48 dX3_sourceOf_27 (by decide) ?_ ?_
          · refine q_iinc (k := 3) C (fun v11 => [(3, .int v11), (0, .ref (gad G k0)), (1, .int a1), (2, .int x5)]) dX3_sourceOf_48 hl rfl (by decide) (by decide) (fun _ => rfl) (fun v11 ls hl => ?_)
            refine q_goto C 12 dX3_sourceOf_51 (by decide) ?_
            exact ih x5 v11 ls (lv_sub hl [1, 2, 3, 0] rfl)
          · refine q_aload_n C dX3_sourceOf_30 rfl (lv_at hl 0 rfl) ?_
            refine g_3_14 C hk0 kf_X3_34 dX3_sourceOf_31 ?_
            refine q_iload_n C dX3_sourceOf_34 rfl (lv_at hl 3 rfl) ?_
            refine a_ald12 C (yk_3_14 hk0) (yl_3_14 hk0) dX3_sourceOf_35 (fun h12 => ?_)
            refine g_1_5 C (ye_12 (yk_3_14 hk0) (i := x6.toInt.toNat) (by omega)) kf_X3_200 dX3_sourceOf_36 (fun v13 => ?_)
            refine q_iload_n C dX3_sourceOf_39 rfl (lv_at hl 1 rfl) ?_
            refine q_c1i C (fun r h => cr_SN (As := [.int v13, .int a1]) (rest := []) C (host := "CopyWhileRun") (m_X6_holds l G F v13 a1 σ r h) sb_X6_holds (List.mem_of_getElem? (i := 10) rfl) ⟨Nat.le_of_ble_eq_true rfl, Nat.le_of_ble_eq_true rfl⟩ ⟨Nat.zero_le _, Nat.zero_le _⟩ hl.1 rfl (Nat.le_of_ble_eq_true rfl) dX3_sourceOf_40 rfl) (fun v14 => ?_)
            refine q_if_eq C 48 dX3_sourceOf_43 (by decide) ?_ ?_
            · refine q_iinc (k := 3) C (fun v15 => [(3, .int v15), (0, .ref (gad G k0)), (1, .int a1), (2, .int x5)]) dX3_sourceOf_48 hl rfl (by decide) (by decide) (fun _ => rfl) (fun v15 ls hl => ?_)
              refine q_goto C 12 dX3_sourceOf_51 (by decide) ?_
              exact ih x5 v15 ls (lv_sub hl [1, 2, 3, 0] rfl)
            · refine q_iload_n C dX3_sourceOf_46 rfl (lv_at hl 3 rfl) ?_
              exact q_iret C hr hlo dX3_sourceOf_47
  refine q_aload_n C dX3_sourceOf_0 rfl (lv_at hl 0 rfl) ?_
  refine q_c1i C (fun r h => cr_V (As := []) (rest := []) C (m_X3_chainHead l G F k0 σ r h) cb_X3_chainHead hk0 (by decide) rfl (cf_3 hk0 _) rfl kl_X3_194 ⟨Nat.le_of_ble_eq_true rfl, Nat.le_of_ble_eq_true rfl⟩ ⟨Nat.zero_le _, Nat.zero_le _⟩ hl.1 rfl (Nat.le_of_ble_eq_true rfl) dX3_sourceOf_1 rfl) (fun v1 => ?_)
  refine q_istore_n C [(2, .int v1), (0, .ref (gad G k0)), (1, .int a1)] dX3_sourceOf_4 rfl hl (by decide) rfl (fun ls hl => ?_)
  refine q_aload_n C dX3_sourceOf_5 rfl (lv_at hl 1 rfl) ?_
  refine g_3_3 C hk0 kf_X3_64 dX3_sourceOf_6 (fun v2 => ?_)
  refine q_iconst C dX3_sourceOf_9 rfl (by decide) (fun v3 => ?_)
  refine q_isub C dX3_sourceOf_10 (fun v4 => ?_)
  refine q_istore_n C [(3, .int v4), (2, .int v1), (0, .ref (gad G k0)), (1, .int a1)] dX3_sourceOf_11 rfl hl (by decide) rfl (fun ls hl => ?_)
  exact B12 F v1 v4 ls (lv_sub hl [2, 3, 1, 0] rfl)
def f_X3_raisedCell (F : Nat) (k0 : Nat) (a1 : Int) (σ : St) : Option (Int) :=
  z_ob 3 k0 <| 
  z_c1 (f_X3_sourceOf F k0 a1 σ) fun v1 =>
  z_ca (f_X3_copyOf F k0 v1 σ) (
    z_gt 0 fun v3 =>
    some v3) fun k2 => z_ob 1 k2 <|
  z_c1 (f_X1_contentOf F k2 a1 σ) fun v4 =>
  some v4
theorem cb_X3_raisedCell : CB yX3_raisedCell cX3_raisedCell 3 (some .int) 1 := ⟨ki_X3_raisedCell, kq_X3_raisedCell, kn_X3, kc_X3_raisedCell, by decide +kernel, by decide +kernel, by decide +kernel⟩
set_option maxRecDepth 20000 in
set_option maxHeartbeats 4000000 in
theorem m_X3_raisedCell (l : Launch) (G : GG) (F : Nat) (k0 : Nat) (a1 : Int32) (σ : St) : ∀ r, f_X3_raisedCell F k0 a1.toInt σ = some r → MC G l yX3_raisedCell cX3_raisedCell 3 (some .int) { frames := 4, cells := 0, slots := 0, locals := 87 } [.ref (gad G k0), .int a1] σ (vI r) σ := by
  refine MC_of (own := RX3) (vI) (fun _ => σ) (by decide +kernel) rfl (Nat.le_of_ble_eq_true rfl) ?_
  intro p e s m args below meth c C hr hlo ls hl
  have hl : lv_has ls 3 [(0, .ref (gad G k0)), (1, .int a1)] := hl
  unfold f_X3_raisedCell
  refine q_ob (fun hk0 => ?_)
  refine q_aload_n C dX3_raisedCell_0 rfl (lv_at hl 0 rfl) ?_
  refine q_aload_n C dX3_raisedCell_1 rfl (lv_at hl 0 rfl) ?_
  refine q_iload_n C dX3_raisedCell_2 rfl (lv_at hl 1 rfl) ?_
  refine q_c1i C (fun r h => cr_V (As := [.int a1]) (rest := [.ref (gad G k0)]) C (m_X3_sourceOf l G F k0 a1 σ r h) cb_X3_sourceOf hk0 (by decide) rfl (cf_3 hk0 _) rfl kl_X3_203 ⟨Nat.le_of_ble_eq_true rfl, Nat.le_of_ble_eq_true rfl⟩ ⟨Nat.zero_le _, Nat.zero_le _⟩ hl.1 rfl (Nat.le_of_ble_eq_true rfl) dX3_raisedCell_3 rfl) (fun v1 => ?_)
  refine q_ca C (fun r h => cr_V (As := [.int v1]) (rest := []) C (m_X3_copyOf l G F k0 v1 σ r h) cb_X3_copyOf hk0 (by decide) rfl (cf_3 hk0 _) rfl kl_X3_145 ⟨Nat.le_of_ble_eq_true rfl, Nat.le_of_ble_eq_true rfl⟩ ⟨Nat.zero_le _, Nat.zero_le _⟩ hl.1 rfl (Nat.le_of_ble_eq_true rfl) dX3_raisedCell_6 rfl) ?_ (fun k2 => q_ob (fun hk2 => ?_))
  · refine q_astore_nN C [(2, .null), (0, .ref (gad G k0)), (1, .int a1)] dX3_raisedCell_9 rfl hl (by decide) rfl (fun ls hl => ?_)
    refine q_aload_nN C dX3_raisedCell_10 rfl (lv_at hl 0 rfl) ?_
    refine q_ifnonnullN C dX3_raisedCell_11 ?_
    refine q_iconst C dX3_raisedCell_14 rfl (by decide) (fun v3 => ?_)
    refine q_goto C 23 dX3_raisedCell_15 (by decide) ?_
    exact q_iret C hr hlo dX3_raisedCell_23
  · refine q_astore_n C [(2, .ref (gad G k2)), (0, .ref (gad G k0)), (1, .int a1)] dX3_raisedCell_9 rfl hl (by decide) rfl (fun ls hl => ?_)
    refine q_aload_n C dX3_raisedCell_10 rfl (lv_at hl 0 rfl) ?_
    refine q_ifnonnull C 18 dX3_raisedCell_11 (by decide) ?_
    refine q_aload_n C dX3_raisedCell_18 rfl (lv_at hl 0 rfl) ?_
    refine q_iload_n C dX3_raisedCell_19 rfl (lv_at hl 2 rfl) ?_
    refine q_c1i C (fun r h => cr_V (As := [.int a1]) (rest := []) C (m_X1_contentOf l G F k2 a1 σ r h) cb_X1_contentOf hk2 (by decide) rfl (cf_1 hk2 _) rfl kl_X3_206 ⟨Nat.le_of_ble_eq_true rfl, Nat.le_of_ble_eq_true rfl⟩ ⟨Nat.zero_le _, Nat.zero_le _⟩ hl.1 rfl (Nat.le_of_ble_eq_true rfl) dX3_raisedCell_20 rfl) (fun v4 => ?_)
    exact q_iret C hr hlo dX3_raisedCell_23
def f_X3_keptAgain_L17 (F : Nat) (k0 : Nat)  (σ : St) : Nat → Int → Int → Int → Int → Option (Int)
  | 0, _, _, _, _ => none
  | n + 1, x7, x8, x9, x10 =>
    z_gt (-1) fun v11 =>
    if x7 = v11 then (
      some x9)
    else (
      if x10 < x7 then (
        some x9)
      else (
        z_c1 (f_X3_isWhole F k0 x10 σ) fun v12 =>
        if v12 = 0 then (
          z_ck (x10 + (-1)) fun v13 =>
          f_X3_keptAgain_L17 F k0 σ n x7 x8 x9 v13)
        else (
          z_ix x10 30 <|
          z_gt (σ (k0 + 7 + 1 + 3 * x10.toNat) 5) fun v15 =>
          z_gt (z_and v15 x8) fun v16 =>
          z_c1 (f_J6_bitCount_0f7a4 F v16 σ) fun v17 =>
          z_ck (x9 + v17) fun v18 =>
          z_ix x10 30 <|
          z_gt (σ (k0 + 7 + 1 + 3 * x10.toNat) 5) fun v20 =>
          z_gt (z_or x8 v20) fun v21 =>
          z_ck (x10 + (-1)) fun v22 =>
          f_X3_keptAgain_L17 F k0 σ n x7 v21 v18 v22)))

def f_X3_keptAgain (F : Nat) (k0 : Nat) (σ : St) : Option (Int) :=
  z_ob 3 k0 <| 
  z_c1 (f_X3_chainHead F k0 σ) fun v1 =>
  z_gt 0 fun v2 =>
  z_gt 0 fun v3 =>
  z_gt (σ k0 3) fun v4 =>
  z_gt 1 fun v5 =>
  z_ck (v4 - v5) fun v6 =>
  f_X3_keptAgain_L17 F k0 σ F v1 v2 v3 v6
theorem cb_X3_keptAgain : CB yX3_keptAgain cX3_keptAgain 5 (some .int) 0 := ⟨ki_X3_keptAgain, kq_X3_keptAgain, kn_X3, kc_X3_keptAgain, by decide +kernel, by decide +kernel, by decide +kernel⟩
set_option maxRecDepth 20000 in
set_option maxHeartbeats 4000000 in
theorem m_X3_keptAgain (l : Launch) (G : GG) (F : Nat) (k0 : Nat) (σ : St) : ∀ r, f_X3_keptAgain F k0 σ = some r → MC G l yX3_keptAgain cX3_keptAgain 5 (some .int) { frames := 3, cells := 0, slots := 0, locals := 64 } [.ref (gad G k0)] σ (vI r) σ := by
  refine MC_of (own := RX3) (vI) (fun _ => σ) (by decide +kernel) rfl (Nat.le_of_ble_eq_true rfl) ?_
  intro p e s m args below meth c C hr hlo ls hl
  have hl : lv_has ls 5 [(0, .ref (gad G k0))] := hl
  unfold f_X3_keptAgain
  refine q_ob (fun hk0 => ?_)
  have B17 : ∀ (n : Nat) (x7 : Int32) (x8 : Int32) (x9 : Int32) (x10 : Int32) (ls : Array Slot), lv_has ls 5 [(0, .ref (gad G k0)), (1, .int x7), (2, .int x8), (3, .int x9), (4, .int x10)] → Sim G (AG G) 0 0 p l e { frames := 3, cells := 0, slots := 0, locals := 64 } s m args below meth c (fun r : Int => MQ below (QC G (vI r) (σ)) args s 0 0 (AG G)) σ (f_X3_keptAgain_L17 F k0  σ n x7.toInt x8.toInt x9.toInt x10.toInt) (F0 m 17 ls []) := by
    intro n
    induction n with
    | zero =>
      intro x7 x8 x9 x10 ls hl
      exact sim_none
    | succ n ih =>
      intro x7 x8 x9 x10 ls hl
      rw [f_X3_keptAgain_L17]
      refine q_iload_n C dX3_keptAgain_17 rfl (lv_at hl 1 rfl) ?_
      refine q_iconst C dX3_keptAgain_18 rfl (by decide) (fun v11 => ?_)
      refine q_icmp_eq C 74 dX3_keptAgain_19 (by decide) ?_ ?_
      · refine q_iload_n C dX3_keptAgain_74 rfl (lv_at hl 3 rfl) ?_
        exact q_iret C hr hlo dX3_keptAgain_75
      · refine q_iload C dX3_keptAgain_22 (lv_at hl 4 rfl) ?_
        refine q_iload_n C dX3_keptAgain_24 rfl (lv_at hl 1 rfl) ?_
        refine q_icmp_lt C 74 dX3_keptAgain_25 (by decide) ?_ ?_
        · refine q_iload_n C dX3_keptAgain_74 rfl (lv_at hl 3 rfl) ?_
          exact q_iret C hr hlo dX3_keptAgain_75
        · refine q_aload_n C dX3_keptAgain_28 rfl (lv_at hl 0 rfl) ?_
          refine q_iload C dX3_keptAgain_29 (lv_at hl 4 rfl) ?_
          refine q_c1i C (fun r h => cr_V (As := [.int x10]) (rest := []) C (m_X3_isWhole l G F k0 x10 σ r h) cb_X3_isWhole hk0 (by decide) rfl (cf_3 hk0 _) rfl kl_X3_187 ⟨Nat.le_of_ble_eq_true rfl, Nat.le_of_ble_eq_true rfl⟩ ⟨Nat.zero_le _, Nat.zero_le _⟩ hl.1 rfl (Nat.le_of_ble_eq_true rfl) dX3_keptAgain_31 rfl) (fun v12 => ?_)
          refine q_if_eq C 68 dX3_keptAgain_34 (by decide) ?_ ?_
          · refine q_iinc (k := 4) C (fun v13 => [(4, .int v13), (0, .ref (gad G k0)), (1, .int x7), (2, .int x8), (3, .int x9)]) dX3_keptAgain_68 hl rfl (by decide) (by decide) (fun _ => rfl) (fun v13 ls hl => ?_)
            refine q_goto C 17 dX3_keptAgain_71 (by decide) ?_
            exact ih x7 x8 x9 v13 ls (lv_sub hl [1, 2, 3, 4, 0] rfl)
          · refine q_iload_n C dX3_keptAgain_37 rfl (lv_at hl 3 rfl) ?_
            refine q_aload_n C dX3_keptAgain_38 rfl (lv_at hl 0 rfl) ?_
            refine g_3_14 C hk0 kf_X3_34 dX3_keptAgain_39 ?_
            refine q_iload C dX3_keptAgain_42 (lv_at hl 4 rfl) ?_
            refine a_ald12 C (yk_3_14 hk0) (yl_3_14 hk0) dX3_keptAgain_44 (fun h14 => ?_)
            refine g_1_5 C (ye_12 (yk_3_14 hk0) (i := x10.toInt.toNat) (by omega)) kf_X3_200 dX3_keptAgain_45 (fun v15 => ?_)
            refine q_iload_n C dX3_keptAgain_48 rfl (lv_at hl 2 rfl) ?_
            refine q_iand C dX3_keptAgain_49 (fun v16 => ?_)
            refine q_c1i C (fun r h => cr_S (As := [.int v16]) (rest := [.int x9]) C (m_J6_bitCount_0f7a4 l G F v16 σ r h) sb_J6_bitCount_0f7a4 kl_X3_182 ⟨Nat.le_of_ble_eq_true rfl, Nat.le_of_ble_eq_true rfl⟩ ⟨Nat.zero_le _, Nat.zero_le _⟩ hl.1 rfl (Nat.le_of_ble_eq_true rfl) dX3_keptAgain_50 rfl) (fun v17 => ?_)
            refine q_iadd C dX3_keptAgain_53 (fun v18 => ?_)
            refine q_istore_n C [(3, .int v18), (0, .ref (gad G k0)), (1, .int x7), (2, .int x8), (4, .int x10)] dX3_keptAgain_54 rfl hl (by decide) rfl (fun ls hl => ?_)
            refine q_iload_n C dX3_keptAgain_55 rfl (lv_at hl 3 rfl) ?_
            refine q_aload_n C dX3_keptAgain_56 rfl (lv_at hl 1 rfl) ?_
            refine g_3_14 C hk0 kf_X3_34 dX3_keptAgain_57 ?_
            refine q_iload C dX3_keptAgain_60 (lv_at hl 4 rfl) ?_
            refine a_ald12 C (yk_3_14 hk0) (yl_3_14 hk0) dX3_keptAgain_62 (fun h19 => ?_)
            refine g_1_5 C (ye_12 (yk_3_14 hk0) (i := x10.toInt.toNat) (by omega)) kf_X3_200 dX3_keptAgain_63 (fun v20 => ?_)
            refine q_ior C dX3_keptAgain_66 (fun v21 => ?_)
            refine q_istore_n C [(2, .int v21), (3, .int v18), (0, .ref (gad G k0)), (1, .int x7), (4, .int x10)] dX3_keptAgain_67 rfl hl (by decide) rfl (fun ls hl => ?_)
            refine q_iinc (k := 4) C (fun v22 => [(4, .int v22), (2, .int v21), (3, .int v18), (0, .ref (gad G k0)), (1, .int x7)]) dX3_keptAgain_68 hl rfl (by decide) (by decide) (fun _ => rfl) (fun v22 ls hl => ?_)
            refine q_goto C 17 dX3_keptAgain_71 (by decide) ?_
            exact ih x7 v21 v18 v22 ls (lv_sub hl [3, 4, 1, 2, 0] rfl)
  refine q_aload_n C dX3_keptAgain_0 rfl (lv_at hl 0 rfl) ?_
  refine q_c1i C (fun r h => cr_V (As := []) (rest := []) C (m_X3_chainHead l G F k0 σ r h) cb_X3_chainHead hk0 (by decide) rfl (cf_3 hk0 _) rfl kl_X3_194 ⟨Nat.le_of_ble_eq_true rfl, Nat.le_of_ble_eq_true rfl⟩ ⟨Nat.zero_le _, Nat.zero_le _⟩ hl.1 rfl (Nat.le_of_ble_eq_true rfl) dX3_keptAgain_1 rfl) (fun v1 => ?_)
  refine q_istore_n C [(1, .int v1), (0, .ref (gad G k0))] dX3_keptAgain_4 rfl hl (by decide) rfl (fun ls hl => ?_)
  refine q_iconst C dX3_keptAgain_5 rfl (by decide) (fun v2 => ?_)
  refine q_istore_n C [(2, .int v2), (1, .int v1), (0, .ref (gad G k0))] dX3_keptAgain_6 rfl hl (by decide) rfl (fun ls hl => ?_)
  refine q_iconst C dX3_keptAgain_7 rfl (by decide) (fun v3 => ?_)
  refine q_istore_n C [(3, .int v3), (2, .int v2), (1, .int v1), (0, .ref (gad G k0))] dX3_keptAgain_8 rfl hl (by decide) rfl (fun ls hl => ?_)
  refine q_aload_n C dX3_keptAgain_9 rfl (lv_at hl 3 rfl) ?_
  refine g_3_3 C hk0 kf_X3_64 dX3_keptAgain_10 (fun v4 => ?_)
  refine q_iconst C dX3_keptAgain_13 rfl (by decide) (fun v5 => ?_)
  refine q_isub C dX3_keptAgain_14 (fun v6 => ?_)
  refine q_istore C [(4, .int v6), (3, .int v3), (2, .int v2), (1, .int v1), (0, .ref (gad G k0))] dX3_keptAgain_15 hl (by decide) rfl (fun ls hl => ?_)
  exact B17 F v1 v2 v3 v6 ls (lv_sub hl [4, 3, 2, 1, 0] rfl)
def f_X4_become (F : Nat) (k0 : Nat) (a1 : Nat) (σ : St) : Option (St) :=
  z_ob 4 k0 <| z_ob 4 a1 <| 
  z_gt (σ a1 0) fun v1 =>
  z_sg (z_up σ k0 0 v1) fun σ1 =>
  z_gt (σ1 a1 1) fun v2 =>
  z_sg (z_up σ1 k0 1 v2) fun σ2 =>
  z_gt (σ2 a1 2) fun v3 =>
  z_sg (z_up σ2 k0 2 v3) fun σ3 =>
  z_gt (σ3 a1 3) fun v4 =>
  z_sg (z_up σ3 k0 3 v4) fun σ4 =>
  z_gt (σ4 a1 4) fun v5 =>
  z_sg (z_up σ4 k0 4 v5) fun σ5 =>
  z_gt 0 fun v6 =>
  z_gt 0 fun v7 =>
  z_gt 60 fun v8 =>
  z_cpk v6 v7 v8 60 60 <| z_sg (z_cp σ5 (a1 + 1) (k0 + 1) v6 v7 v8) fun σ6 =>
  z_gt 0 fun v9 =>
  z_gt 0 fun v10 =>
  z_gt 180 fun v11 =>
  z_cpk v9 v10 v11 180 180 <| z_sg (z_cp σ6 (a1 + 2) (k0 + 2) v9 v10 v11) fun σ7 =>
  some σ7
theorem cb_X4_become : CB yX4_become cX4_become 2 none 1 := ⟨ki_X4_become, kq_X4_become, kn_X4, kc_X4_become, by decide +kernel, by decide +kernel, by decide +kernel⟩
set_option maxRecDepth 20000 in
set_option maxHeartbeats 4000000 in
theorem m_X4_become (l : Launch) (G : GG) (F : Nat) (k0 : Nat) (a1 : Nat) (σ : St) : ∀ r, f_X4_become F k0 a1 σ = some r → MC G l yX4_become cX4_become 2 none { frames := 1, cells := 0, slots := 0, locals := 45 } [.ref (gad G k0), .ref (gad G a1)] σ vV r := by
  refine MC_of (own := RX4) (fun _ => vV) (fun r => r) (by decide +kernel) rfl (Nat.le_of_ble_eq_true rfl) ?_
  intro p e s m args below meth c C hr hlo ls hl
  have hl : lv_has ls 2 [(0, .ref (gad G k0)), (1, .ref (gad G a1))] := hl
  unfold f_X4_become
  refine q_ob (fun hk0 => ?_)
  refine q_ob (fun hk1 => ?_)
  refine q_aload_n C dX4_become_0 rfl (lv_at hl 0 rfl) ?_
  refine q_aload_n C dX4_become_1 rfl (lv_at hl 1 rfl) ?_
  refine g_4_0 C hk1 kf_X4_18 dX4_become_2 (fun v1 => ?_)
  refine p_4_0 C hk0 kf_X4_18 dX4_become_5 (q_sg (fun σ1 => ?_))
  refine q_aload_n C dX4_become_8 rfl (lv_at hl 0 rfl) ?_
  refine q_aload_n C dX4_become_9 rfl (lv_at hl 1 rfl) ?_
  refine g_4_1 C hk1 kf_X4_22 dX4_become_10 (fun v2 => ?_)
  refine p_4_1 C hk0 kf_X4_22 dX4_become_13 (q_sg (fun σ2 => ?_))
  refine q_aload_n C dX4_become_16 rfl (lv_at hl 0 rfl) ?_
  refine q_aload_n C dX4_become_17 rfl (lv_at hl 1 rfl) ?_
  refine g_4_2 C hk1 kf_X4_25 dX4_become_18 (fun v3 => ?_)
  refine p_4_2 C hk0 kf_X4_25 dX4_become_21 (q_sg (fun σ3 => ?_))
  refine q_aload_n C dX4_become_24 rfl (lv_at hl 0 rfl) ?_
  refine q_aload_n C dX4_become_25 rfl (lv_at hl 1 rfl) ?_
  refine g_4_3 C hk1 kf_X4_28 dX4_become_26 (fun v4 => ?_)
  refine p_4_3 C hk0 kf_X4_28 dX4_become_29 (q_sg (fun σ4 => ?_))
  refine q_aload_n C dX4_become_32 rfl (lv_at hl 0 rfl) ?_
  refine q_aload_n C dX4_become_33 rfl (lv_at hl 1 rfl) ?_
  refine g_4_4 C hk1 kf_X4_31 dX4_become_34 (fun v5 => ?_)
  refine p_4_4 C hk0 kf_X4_31 dX4_become_37 (q_sg (fun σ5 => ?_))
  refine q_aload_n C dX4_become_40 rfl (lv_at hl 1 rfl) ?_
  refine g_4_6 C hk1 kf_X4_9 dX4_become_41 ?_
  refine q_iconst C dX4_become_44 rfl (by decide) (fun v6 => ?_)
  refine q_aload_n C dX4_become_45 rfl (lv_at hl 0 rfl) ?_
  refine g_4_6 C hk0 kf_X4_9 dX4_become_46 ?_
  refine q_iconst C dX4_become_49 rfl (by decide) (fun v7 => ?_)
  refine q_bipush C dX4_become_50 rfl (by decide) (fun v8 => ?_)
  refine q_copyi C (yk_4_6 hk1) (yl_4_6 hk1) (yk_4_6 hk0) (yl_4_6 hk0) kl_X4_34 ⟨Nat.le_of_ble_eq_true rfl, by decide +kernel⟩ hl.1 dX4_become_52 (q_sg (fun σ6 => ?_))
  refine q_aload_n C dX4_become_55 rfl (lv_at hl 1 rfl) ?_
  refine g_4_7 C hk1 kf_X4_15 dX4_become_56 ?_
  refine q_iconst C dX4_become_59 rfl (by decide) (fun v9 => ?_)
  refine q_aload_n C dX4_become_60 rfl (lv_at hl 0 rfl) ?_
  refine g_4_7 C hk0 kf_X4_15 dX4_become_61 ?_
  refine q_iconst C dX4_become_64 rfl (by decide) (fun v10 => ?_)
  refine q_sipush C dX4_become_65 rfl (by decide) (fun v11 => ?_)
  refine q_copyi C (yk_4_7 hk1) (yl_4_7 hk1) (yk_4_7 hk0) (yl_4_7 hk0) kl_X4_34 ⟨Nat.le_of_ble_eq_true rfl, by decide +kernel⟩ hl.1 dX4_become_68 (q_sg (fun σ7 => ?_))
  exact q_vretE C hr hlo dX4_become_71
def f_X4_exists (F : Nat) (k0 : Nat) (σ : St) : Option (Int) :=
  z_ob 4 k0 <| 
  z_gt (σ k0 0) fun v1 =>
  if v1 ≤ 0 then (
    z_gt 0 fun v2 =>
    z_bo v2 <| some v2)
  else (
    z_gt 1 fun v3 =>
    z_bo v3 <| some v3)
theorem cb_X4_exists : CB yX4_exists cX4_exists 1 (some .boolean) 0 := ⟨ki_X4_exists, kq_X4_exists, kn_X4, kc_X4_exists, by decide +kernel, by decide +kernel, by decide +kernel⟩
set_option maxRecDepth 20000 in
set_option maxHeartbeats 4000000 in
theorem m_X4_exists (l : Launch) (G : GG) (F : Nat) (k0 : Nat) (σ : St) : ∀ r, f_X4_exists F k0 σ = some r → MC G l yX4_exists cX4_exists 1 (some .boolean) { frames := 0, cells := 0, slots := 0, locals := 0 } [.ref (gad G k0)] σ (vI r) σ := by
  refine MC_of (own := RX4) (vI) (fun _ => σ) (by decide +kernel) rfl (Nat.le_of_ble_eq_true rfl) ?_
  intro p e s m args below meth c C hr hlo ls hl
  have hl : lv_has ls 1 [(0, .ref (gad G k0))] := hl
  unfold f_X4_exists
  refine q_ob (fun hk0 => ?_)
  refine q_aload_n C dX4_exists_0 rfl (lv_at hl 0 rfl) ?_
  refine g_4_0 C hk0 kf_X4_18 dX4_exists_1 (fun v1 => ?_)
  refine q_if_le C 11 dX4_exists_4 (by decide) ?_ ?_
  · refine q_iconst C dX4_exists_11 rfl (by decide) (fun v2 => ?_)
    exact q_zret C hr hlo dX4_exists_12
  · refine q_iconst C dX4_exists_7 rfl (by decide) (fun v3 => ?_)
    refine q_goto C 12 dX4_exists_8 (by decide) ?_
    exact q_zret C hr hlo dX4_exists_12
def f_X4_lines (F : Nat) (k0 : Nat) (σ : St) : Option (Int) :=
  z_ob 4 k0 <| 
  z_gt (σ k0 0) fun v1 =>
  if v1 ≤ 0 then (
    z_gt 0 fun v2 =>
    some v2)
  else (
    z_gt (σ k0 3) fun v3 =>
    z_gt 1 fun v4 =>
    z_ck (v3 + v4) fun v5 =>
    some v5)
theorem cb_X4_lines : CB yX4_lines cX4_lines 1 (some .int) 0 := ⟨ki_X4_lines, kq_X4_lines, kn_X4, kc_X4_lines, by decide +kernel, by decide +kernel, by decide +kernel⟩
set_option maxRecDepth 20000 in
set_option maxHeartbeats 4000000 in
theorem m_X4_lines (l : Launch) (G : GG) (F : Nat) (k0 : Nat) (σ : St) : ∀ r, f_X4_lines F k0 σ = some r → MC G l yX4_lines cX4_lines 1 (some .int) { frames := 0, cells := 0, slots := 0, locals := 0 } [.ref (gad G k0)] σ (vI r) σ := by
  refine MC_of (own := RX4) (vI) (fun _ => σ) (by decide +kernel) rfl (Nat.le_of_ble_eq_true rfl) ?_
  intro p e s m args below meth c C hr hlo ls hl
  have hl : lv_has ls 1 [(0, .ref (gad G k0))] := hl
  unfold f_X4_lines
  refine q_ob (fun hk0 => ?_)
  refine q_aload_n C dX4_lines_0 rfl (lv_at hl 0 rfl) ?_
  refine g_4_0 C hk0 kf_X4_18 dX4_lines_1 (fun v1 => ?_)
  refine q_if_le C 16 dX4_lines_4 (by decide) ?_ ?_
  · refine q_iconst C dX4_lines_16 rfl (by decide) (fun v2 => ?_)
    exact q_iret C hr hlo dX4_lines_17
  · refine q_aload_n C dX4_lines_7 rfl (lv_at hl 0 rfl) ?_
    refine g_4_3 C hk0 kf_X4_28 dX4_lines_8 (fun v3 => ?_)
    refine q_iconst C dX4_lines_11 rfl (by decide) (fun v4 => ?_)
    refine q_iadd C dX4_lines_12 (fun v5 => ?_)
    refine q_goto C 17 dX4_lines_13 (by decide) ?_
    exact q_iret C hr hlo dX4_lines_17
def f_X4_isCommand (F : Nat) (k0 : Nat) (a1 : Int) (σ : St) : Option (Int) :=
  z_ob 4 k0 <| 
  z_c1 (f_X4_kindOf F k0 a1 σ) fun v1 =>
  z_gt 3 fun v2 =>
  if v2 < v1 then (
    z_gt 0 fun v3 =>
    z_bo v3 <| some v3)
  else (
    z_gt 1 fun v4 =>
    z_bo v4 <| some v4)
theorem cb_X4_isCommand : CB yX4_isCommand cX4_isCommand 2 (some .boolean) 1 := ⟨ki_X4_isCommand, kq_X4_isCommand, kn_X4, kc_X4_isCommand, by decide +kernel, by decide +kernel, by decide +kernel⟩
set_option maxRecDepth 20000 in
set_option maxHeartbeats 4000000 in
theorem m_X4_isCommand (l : Launch) (G : GG) (F : Nat) (k0 : Nat) (a1 : Int32) (σ : St) : ∀ r, f_X4_isCommand F k0 a1.toInt σ = some r → MC G l yX4_isCommand cX4_isCommand 2 (some .boolean) { frames := 1, cells := 0, slots := 0, locals := 21 } [.ref (gad G k0), .int a1] σ (vI r) σ := by
  refine MC_of (own := RX4) (vI) (fun _ => σ) (by decide +kernel) rfl (Nat.le_of_ble_eq_true rfl) ?_
  intro p e s m args below meth c C hr hlo ls hl
  have hl : lv_has ls 2 [(0, .ref (gad G k0)), (1, .int a1)] := hl
  unfold f_X4_isCommand
  refine q_ob (fun hk0 => ?_)
  refine q_aload_n C dX4_isCommand_0 rfl (lv_at hl 0 rfl) ?_
  refine q_iload_n C dX4_isCommand_1 rfl (lv_at hl 1 rfl) ?_
  refine q_c1i C (fun r h => cr_V (As := [.int a1]) (rest := []) C (m_X4_kindOf l G F k0 a1 σ r h) cb_X4_kindOf hk0 (by decide) rfl (cf_4 hk0 _) rfl kl_X4_40 ⟨Nat.le_of_ble_eq_true rfl, Nat.le_of_ble_eq_true rfl⟩ ⟨Nat.zero_le _, Nat.zero_le _⟩ hl.1 rfl (Nat.le_of_ble_eq_true rfl) dX4_isCommand_2 rfl) (fun v1 => ?_)
  refine q_iconst C dX4_isCommand_5 rfl (by decide) (fun v2 => ?_)
  refine q_icmp_gt C 13 dX4_isCommand_6 (by decide) ?_ ?_
  · refine q_iconst C dX4_isCommand_13 rfl (by decide) (fun v3 => ?_)
    exact q_zret C hr hlo dX4_isCommand_14
  · refine q_iconst C dX4_isCommand_9 rfl (by decide) (fun v4 => ?_)
    refine q_goto C 14 dX4_isCommand_10 (by decide) ?_
    exact q_zret C hr hlo dX4_isCommand_14
def f_X4_commands_L4 (F : Nat) (k0 : Nat)  (σ : St) : Nat → Int → Int → Option (Int)
  | 0, _, _ => none
  | n + 1, x3, x4 =>
    z_c1 (f_X4_size F k0 σ) fun v5 =>
    if v5 ≤ x4 then (
      some x3)
    else (
      z_c1 (f_X4_isCommand F k0 x4 σ) fun v6 =>
      if v6 = 0 then (
        z_ck (x4 + 1) fun v7 =>
        f_X4_commands_L4 F k0 σ n x3 v7)
      else (
        z_ck (x3 + 1) fun v8 =>
        z_ck (x4 + 1) fun v9 =>
        f_X4_commands_L4 F k0 σ n v8 v9))

def f_X4_commands (F : Nat) (k0 : Nat) (σ : St) : Option (Int) :=
  z_ob 4 k0 <| 
  z_gt 0 fun v1 =>
  z_gt 0 fun v2 =>
  f_X4_commands_L4 F k0 σ F v1 v2
theorem cb_X4_commands : CB yX4_commands cX4_commands 3 (some .int) 0 := ⟨ki_X4_commands, kq_X4_commands, kn_X4, kc_X4_commands, by decide +kernel, by decide +kernel, by decide +kernel⟩
set_option maxRecDepth 20000 in
set_option maxHeartbeats 4000000 in
theorem m_X4_commands (l : Launch) (G : GG) (F : Nat) (k0 : Nat) (σ : St) : ∀ r, f_X4_commands F k0 σ = some r → MC G l yX4_commands cX4_commands 3 (some .int) { frames := 2, cells := 0, slots := 0, locals := 42 } [.ref (gad G k0)] σ (vI r) σ := by
  refine MC_of (own := RX4) (vI) (fun _ => σ) (by decide +kernel) rfl (Nat.le_of_ble_eq_true rfl) ?_
  intro p e s m args below meth c C hr hlo ls hl
  have hl : lv_has ls 3 [(0, .ref (gad G k0))] := hl
  unfold f_X4_commands
  refine q_ob (fun hk0 => ?_)
  have B4 : ∀ (n : Nat) (x3 : Int32) (x4 : Int32) (ls : Array Slot), lv_has ls 3 [(0, .ref (gad G k0)), (1, .int x3), (2, .int x4)] → Sim G (AG G) 0 0 p l e { frames := 2, cells := 0, slots := 0, locals := 42 } s m args below meth c (fun r : Int => MQ below (QC G (vI r) (σ)) args s 0 0 (AG G)) σ (f_X4_commands_L4 F k0  σ n x3.toInt x4.toInt) (F0 m 4 ls []) := by
    intro n
    induction n with
    | zero =>
      intro x3 x4 ls hl
      exact sim_none
    | succ n ih =>
      intro x3 x4 ls hl
      rw [f_X4_commands_L4]
      refine q_iload_n C dX4_commands_4 rfl (lv_at hl 2 rfl) ?_
      refine q_aload_n C dX4_commands_5 rfl (lv_at hl 0 rfl) ?_
      refine q_c1i C (fun r h => cr_V (As := []) (rest := [.int x4]) C (m_X4_size l G F k0 σ r h) cb_X4_size hk0 (by decide) rfl (cf_4 hk0 _) rfl kl_X4_44 ⟨Nat.le_of_ble_eq_true rfl, Nat.le_of_ble_eq_true rfl⟩ ⟨Nat.zero_le _, Nat.zero_le _⟩ hl.1 rfl (Nat.le_of_ble_eq_true rfl) dX4_commands_6 rfl) (fun v5 => ?_)
      refine q_icmp_ge C 29 dX4_commands_9 (by decide) ?_ ?_
      · refine q_iload_n C dX4_commands_29 rfl (lv_at hl 1 rfl) ?_
        exact q_iret C hr hlo dX4_commands_30
      · refine q_aload_n C dX4_commands_12 rfl (lv_at hl 0 rfl) ?_
        refine q_iload_n C dX4_commands_13 rfl (lv_at hl 2 rfl) ?_
        refine q_c1i C (fun r h => cr_V (As := [.int x4]) (rest := []) C (m_X4_isCommand l G F k0 x4 σ r h) cb_X4_isCommand hk0 (by decide) rfl (cf_4 hk0 _) rfl kl_X4_48 ⟨Nat.le_of_ble_eq_true rfl, Nat.le_of_ble_eq_true rfl⟩ ⟨Nat.zero_le _, Nat.zero_le _⟩ hl.1 rfl (Nat.le_of_ble_eq_true rfl) dX4_commands_14 rfl) (fun v6 => ?_)
        refine q_if_eq C 23 dX4_commands_17 (by decide) ?_ ?_
        · refine q_iinc (k := 2) C (fun v7 => [(2, .int v7), (0, .ref (gad G k0)), (1, .int x3)]) dX4_commands_23 hl rfl (by decide) (by decide) (fun _ => rfl) (fun v7 ls hl => ?_)
          refine q_goto C 4 dX4_commands_26 (by decide) ?_
          exact ih x3 v7 ls (lv_sub hl [1, 2, 0] rfl)
        · refine q_iinc (k := 1) C (fun v8 => [(1, .int v8), (0, .ref (gad G k0)), (2, .int x4)]) dX4_commands_20 hl rfl (by decide) (by decide) (fun _ => rfl) (fun v8 ls hl => ?_)
          refine q_iinc (k := 2) C (fun v9 => [(2, .int v9), (1, .int v8), (0, .ref (gad G k0))]) dX4_commands_23 hl rfl (by decide) (by decide) (fun _ => rfl) (fun v9 ls hl => ?_)
          refine q_goto C 4 dX4_commands_26 (by decide) ?_
          exact ih v8 v9 ls (lv_sub hl [2, 1, 0] rfl)
  refine q_iconst C dX4_commands_0 rfl (by decide) (fun v1 => ?_)
  refine q_istore_n C [(1, .int v1), (0, .ref (gad G k0))] dX4_commands_1 rfl hl (by decide) rfl (fun ls hl => ?_)
  refine q_iconst C dX4_commands_2 rfl (by decide) (fun v2 => ?_)
  refine q_istore_n C [(2, .int v2), (1, .int v1), (0, .ref (gad G k0))] dX4_commands_3 rfl hl (by decide) rfl (fun ls hl => ?_)
  exact B4 F v1 v2 ls (lv_sub hl [2, 1, 0] rfl)
def f_J7_fill_d0a16_L6 (F : Nat) (a1 : Nat) (a2 : Int)   : Nat → Int → Int → St → Option (St)
  | 0, _, _, _ => none
  | n + 1, x3, x4, σ =>
    if x4 ≤ x3 then (
      some σ)
    else (
      z_ix x3 (lnX a1) <| z_sg (z_up σ a1 x3 a2) fun σ1 =>
      z_ck (x3 + 1) fun v5 =>
      f_J7_fill_d0a16_L6 F a1 a2 n v5 x4 σ1)

def f_J7_fill_d0a16 (F : Nat) (a1 : Nat) (a2 : Int) (σ : St) : Option (St) :=
  z_ob 10 a1 <| 
  z_gt 0 fun v1 =>
  z_gt (lnX a1) fun v2 =>
  f_J7_fill_d0a16_L6 F a1 a2 F v1 v2 σ
theorem sb_J7_fill_d0a16 : SB yJ7_fill_d0a16 cJ7_fill_d0a16 5 none 2 := ⟨ks_J7_fill_d0a16, kn_J7, kc_J7_fill_d0a16, by decide +kernel, by decide +kernel, by decide +kernel⟩
set_option maxRecDepth 20000 in
set_option maxHeartbeats 4000000 in
theorem m_J7_fill_d0a16 (l : Launch) (G : GG) (F : Nat) (a1 : Nat) (a2 : Int64) (σ : St) : ∀ r, f_J7_fill_d0a16 F a1 a2.toInt σ = some r → MC G l yJ7_fill_d0a16 cJ7_fill_d0a16 5 none { frames := 0, cells := 0, slots := 0, locals := 0 } [.ref (gad G a1), .long a2] σ vV r := by
  refine MC_of (own := RJ7) (fun _ => vV) (fun r => r) (by decide +kernel) rfl (Nat.le_of_ble_eq_true rfl) ?_
  intro p e s m args below meth c C hr hlo ls hl
  have hl : lv_has ls 5 [(0, .ref (gad G a1)), (1, .long a2)] := hl
  unfold f_J7_fill_d0a16
  refine q_ob (fun hk1 => ?_)
  have B6 : ∀ (n : Nat) (x3 : Int32) (x4 : Int32) (σ : St) (ls : Array Slot), lv_has ls 5 [(0, .ref (gad G a1)), (1, .long a2), (3, .int x3), (4, .int x4)] → Sim G (AG G) 0 0 p l e { frames := 0, cells := 0, slots := 0, locals := 0 } s m args below meth c (fun r : St => MQ below (QC G (vV) (r)) args s 0 0 (AG G)) σ (f_J7_fill_d0a16_L6 F a1 a2.toInt   n x3.toInt x4.toInt σ) (F0 m 6 ls []) := by
    intro n
    induction n with
    | zero =>
      intro x3 x4 σ ls hl
      exact sim_none
    | succ n ih =>
      intro x3 x4 σ ls hl
      rw [f_J7_fill_d0a16_L6]
      refine q_iload_n C dJ7_fill_d0a16_6 rfl (lv_at hl 2 rfl) ?_
      refine q_iload C dJ7_fill_d0a16_7 (lv_at hl 3 rfl) ?_
      refine q_icmp_ge C 22 dJ7_fill_d0a16_9 (by decide) ?_ ?_
      · exact q_vretE C hr hlo dJ7_fill_d0a16_22
      · refine q_aload_n C dJ7_fill_d0a16_12 rfl (lv_at hl 0 rfl) ?_
        refine q_iload_n C dJ7_fill_d0a16_13 rfl (lv_at hl 2 rfl) ?_
        refine q_lload_n C dJ7_fill_d0a16_14 rfl (lv_at hl 1 rfl) ?_
        refine a_lst C hk1 rfl dJ7_fill_d0a16_15 (q_sg (fun σ1 => ?_))
        refine q_iinc (k := 2) C (fun v5 => [(3, .int v5), (0, .ref (gad G a1)), (1, .long a2), (4, .int x4)]) dJ7_fill_d0a16_16 hl rfl (by decide) (by decide) (fun _ => rfl) (fun v5 ls hl => ?_)
        refine q_goto C 6 dJ7_fill_d0a16_19 (by decide) ?_
        exact ih v5 x4 σ1 ls (lv_sub hl [1, 2, 0, 3] rfl)
  refine q_iconst C dJ7_fill_d0a16_0 rfl (by decide) (fun v1 => ?_)
  refine q_istore_n C [(3, .int v1), (0, .ref (gad G a1)), (1, .long a2)] dJ7_fill_d0a16_1 rfl hl (by decide) rfl (fun ls hl => ?_)
  refine q_aload_n C dJ7_fill_d0a16_2 rfl (lv_at hl 1 rfl) ?_
  refine a_len10 C hk1 dJ7_fill_d0a16_3 (fun v2 => ?_)
  refine q_istore C [(4, .int v2), (3, .int v1), (0, .ref (gad G a1)), (1, .long a2)] dJ7_fill_d0a16_4 hl (by decide) rfl (fun ls hl => ?_)
  exact B6 F v1 v2 σ ls (lv_sub hl [2, 3, 1, 0] rfl)
def f_X5_make (F : Nat) (k0 : Nat) (a1 : Int) (a2 : Int) (σ : St) : Option (St) :=
  z_ob 5 k0 <| 
  z_gt 1 fun v1 =>
  z_bo v1 <| z_sg (z_up σ k0 0 v1) fun σ1 =>
  z_sg (z_up σ1 k0 1 a1) fun σ2 =>
  z_gt 0 fun v2 =>
  z_gt 60 fun v3 =>
  z_gt (z_min a2 v3) fun v4 =>
  z_gt (z_max v2 v4) fun v5 =>
  z_sg (z_up σ2 k0 2 v5) fun σ3 =>
  z_gt 0 fun v6 =>
  z_c1 (f_J7_fill_d0a16 F (k0 + 1) v6 σ3) fun σ4 =>
  some σ4
theorem cb_X5_make : CB yX5_make cX5_make 3 none 2 := ⟨ki_X5_make, kq_X5_make, kn_X5, kc_X5_make, by decide +kernel, by decide +kernel, by decide +kernel⟩
set_option maxRecDepth 20000 in
set_option maxHeartbeats 4000000 in
theorem m_X5_make (l : Launch) (G : GG) (F : Nat) (k0 : Nat) (a1 : Int32) (a2 : Int32) (σ : St) : ∀ r, f_X5_make F k0 a1.toInt a2.toInt σ = some r → MC G l yX5_make cX5_make 3 none { frames := 1, cells := 0, slots := 0, locals := 45 } [.ref (gad G k0), .int a1, .int a2] σ vV r := by
  refine MC_of (own := RX5) (fun _ => vV) (fun r => r) (by decide +kernel) rfl (Nat.le_of_ble_eq_true rfl) ?_
  intro p e s m args below meth c C hr hlo ls hl
  have hl : lv_has ls 3 [(0, .ref (gad G k0)), (1, .int a1), (2, .int a2)] := hl
  unfold f_X5_make
  refine q_ob (fun hk0 => ?_)
  refine q_aload_n C dX5_make_0 rfl (lv_at hl 0 rfl) ?_
  refine q_iconst C dX5_make_1 rfl (by decide) (fun v1 => ?_)
  refine p_5_0 C hk0 kf_X5_15 dX5_make_2 (q_sg (fun σ1 => ?_))
  refine q_aload_n C dX5_make_5 rfl (lv_at hl 0 rfl) ?_
  refine q_iload_n C dX5_make_6 rfl (lv_at hl 1 rfl) ?_
  refine p_5_1 C hk0 kf_X5_19 dX5_make_7 (q_sg (fun σ2 => ?_))
  refine q_aload_n C dX5_make_10 rfl (lv_at hl 0 rfl) ?_
  refine q_iconst C dX5_make_11 rfl (by decide) (fun v2 => ?_)
  refine q_iload_n C dX5_make_12 rfl (lv_at hl 2 rfl) ?_
  refine q_bipush C dX5_make_13 rfl (by decide) (fun v3 => ?_)
  refine q_min C kl_X5_23 ⟨Nat.le_of_ble_eq_true rfl, Nat.le_of_ble_eq_true rfl⟩ ⟨Nat.zero_le _, Nat.zero_le _⟩ hl.1 dX5_make_15 (fun v4 => ?_)
  refine q_max C kl_X5_29 ⟨Nat.le_of_ble_eq_true rfl, Nat.le_of_ble_eq_true rfl⟩ ⟨Nat.zero_le _, Nat.zero_le _⟩ hl.1 dX5_make_18 (fun v5 => ?_)
  refine p_5_2 C hk0 kf_X5_32 dX5_make_21 (q_sg (fun σ3 => ?_))
  refine q_aload_n C dX5_make_24 rfl (lv_at hl 0 rfl) ?_
  refine g_5_3 C hk0 kf_X5_9 dX5_make_25 ?_
  refine q_lconst C dX5_make_28 rfl (by decide) (fun v6 => ?_)
  refine q_cv C (fun r h => cr_S (As := [.ref (gad G (k0 + 1)), .long v6]) (rest := []) C (m_J7_fill_d0a16 l G F (k0 + 1) v6 σ3 r h) sb_J7_fill_d0a16 kl_X5_35 ⟨Nat.le_of_ble_eq_true rfl, Nat.le_of_ble_eq_true rfl⟩ ⟨Nat.zero_le _, Nat.zero_le _⟩ hl.1 rfl (Nat.le_of_ble_eq_true rfl) dX5_make_29 rfl) (fun σ4 => ?_)
  exact q_vretE C hr hlo dX5_make_32
def f_X5_cut (F : Nat) (k0 : Nat) (a1 : Int) (σ : St) : Option (Int) :=
  z_ob 5 k0 <| 
  z_gt (σ k0 1) fun v1 =>
  if v1 = 0 then (
    z_gt (z_l2i a1) fun v2 =>
    z_gt (z_i2b v2) fun v3 =>
    z_gt v3 fun v4 =>
    some v4)
  else
  if v1 = 1 then (
    z_gt (z_l2i a1) fun v5 =>
    z_gt (z_i2s v5) fun v6 =>
    z_gt v6 fun v7 =>
    some v7)
  else
  if v1 = 2 then (
    z_gt (z_l2i a1) fun v8 =>
    z_gt v8 fun v9 =>
    some v9)
  else
  (
    some a1)
theorem cb_X5_cut : CB yX5_cut cX5_cut 3 (some .long) 1 := ⟨ki_X5_cut, kq_X5_cut, kn_X5, kc_X5_cut, by decide +kernel, by decide +kernel, by decide +kernel⟩
set_option maxRecDepth 20000 in
set_option maxHeartbeats 4000000 in
theorem m_X5_cut (l : Launch) (G : GG) (F : Nat) (k0 : Nat) (a1 : Int64) (σ : St) : ∀ r, f_X5_cut F k0 a1.toInt σ = some r → MC G l yX5_cut cX5_cut 3 (some .long) { frames := 0, cells := 0, slots := 0, locals := 0 } [.ref (gad G k0), .long a1] σ (vL r) σ := by
  refine MC_of (own := RX5) (vL) (fun _ => σ) (by decide +kernel) rfl (Nat.le_of_ble_eq_true rfl) ?_
  intro p e s m args below meth c C hr hlo ls hl
  have hl : lv_has ls 3 [(0, .ref (gad G k0)), (1, .long a1)] := hl
  unfold f_X5_cut
  refine q_ob (fun hk0 => ?_)
  refine q_aload_n C dX5_cut_0 rfl (lv_at hl 0 rfl) ?_
  refine g_5_1 C hk0 kf_X5_19 dX5_cut_1 (fun v1 => ?_)
  refine q_ite (fun e0 => ?_) (fun e0 => ?_) _
  · refine q_tin C 32 e0 dX5_cut_4 (by decide) (by decide) rfl (by decide) ?_
    refine q_lload_n C dX5_cut_32 rfl (lv_at hl 1 rfl) ?_
    refine q_l2i C dX5_cut_33 (fun v2 => ?_)
    refine q_i2b C dX5_cut_34 (fun v3 => ?_)
    refine q_i2l C dX5_cut_35 (fun v4 => ?_)
    exact q_lret C hr hlo dX5_cut_36
  refine q_ite (fun e1 => ?_) (fun e1 => ?_) _
  · refine q_tin C 37 e1 dX5_cut_4 (by decide) (by decide) rfl (by decide) ?_
    refine q_lload_n C dX5_cut_37 rfl (lv_at hl 1 rfl) ?_
    refine q_l2i C dX5_cut_38 (fun v5 => ?_)
    refine q_i2s C dX5_cut_39 (fun v6 => ?_)
    refine q_i2l C dX5_cut_40 (fun v7 => ?_)
    exact q_lret C hr hlo dX5_cut_41
  refine q_ite (fun e2 => ?_) (fun e2 => ?_) _
  · refine q_tin C 42 e2 dX5_cut_4 (by decide) (by decide) rfl (by decide) ?_
    refine q_lload_n C dX5_cut_42 rfl (lv_at hl 1 rfl) ?_
    refine q_l2i C dX5_cut_43 (fun v8 => ?_)
    refine q_i2l C dX5_cut_44 (fun v9 => ?_)
    exact q_lret C hr hlo dX5_cut_45
  refine q_tout C 46 dX5_cut_4 (by omega) (by decide) ?_
  refine q_lload_n C dX5_cut_46 rfl (lv_at hl 1 rfl) ?_
  exact q_lret C hr hlo dX5_cut_47
def f_X5_put (F : Nat) (k0 : Nat) (a1 : Int) (a2 : Int) (σ : St) : Option (St) :=
  z_ob 5 k0 <| 
  if a1 < 0 then (
    some σ)
  else (
    z_gt (σ k0 2) fun v1 =>
    if v1 ≤ a1 then (
      some σ)
    else (
      z_c1 (f_X5_cut F k0 a2 σ) fun v2 =>
      z_ix a1 60 <| z_sg (z_up σ (k0 + 1) a1 v2) fun σ1 =>
      some σ1))
theorem cb_X5_put : CB yX5_put cX5_put 4 none 2 := ⟨ki_X5_put, kq_X5_put, kn_X5, kc_X5_put, by decide +kernel, by decide +kernel, by decide +kernel⟩
set_option maxRecDepth 20000 in
set_option maxHeartbeats 4000000 in
theorem m_X5_put (l : Launch) (G : GG) (F : Nat) (k0 : Nat) (a1 : Int32) (a2 : Int64) (σ : St) : ∀ r, f_X5_put F k0 a1.toInt a2.toInt σ = some r → MC G l yX5_put cX5_put 4 none { frames := 1, cells := 0, slots := 0, locals := 22 } [.ref (gad G k0), .int a1, .long a2] σ vV r := by
  refine MC_of (own := RX5) (fun _ => vV) (fun r => r) (by decide +kernel) rfl (Nat.le_of_ble_eq_true rfl) ?_
  intro p e s m args below meth c C hr hlo ls hl
  have hl : lv_has ls 4 [(0, .ref (gad G k0)), (1, .int a1), (2, .long a2)] := hl
  unfold f_X5_put
  refine q_ob (fun hk0 => ?_)
  refine q_iload_n C dX5_put_0 rfl (lv_at hl 1 rfl) ?_
  refine q_if_lt C 23 dX5_put_1 (by decide) ?_ ?_
  · exact q_vretE C hr hlo dX5_put_23
  · refine q_iload_n C dX5_put_4 rfl (lv_at hl 1 rfl) ?_
    refine q_aload_n C dX5_put_5 rfl (lv_at hl 0 rfl) ?_
    refine g_5_2 C hk0 kf_X5_32 dX5_put_6 (fun v1 => ?_)
    refine q_icmp_ge C 23 dX5_put_9 (by decide) ?_ ?_
    · exact q_vretE C hr hlo dX5_put_23
    · refine q_aload_n C dX5_put_12 rfl (lv_at hl 0 rfl) ?_
      refine g_5_3 C hk0 kf_X5_9 dX5_put_13 ?_
      refine q_iload_n C dX5_put_16 rfl (lv_at hl 1 rfl) ?_
      refine q_aload_n C dX5_put_17 rfl (lv_at hl 0 rfl) ?_
      refine q_lload_n C dX5_put_18 rfl (lv_at hl 2 rfl) ?_
      refine q_c1l C (fun r h => cr_V (As := [.long a2]) (rest := [.int a1, .ref (gad G (k0 + 1))]) C (m_X5_cut l G F k0 a2 σ r h) cb_X5_cut hk0 (by decide) rfl (cf_5 hk0 _) rfl kl_X5_41 ⟨Nat.le_of_ble_eq_true rfl, Nat.le_of_ble_eq_true rfl⟩ ⟨Nat.zero_le _, Nat.zero_le _⟩ hl.1 rfl (Nat.le_of_ble_eq_true rfl) dX5_put_19 rfl) (fun v2 => ?_)
      refine a_lst C (yk_5_3 hk0) (yl_5_3 hk0) dX5_put_22 (q_sg (fun σ1 => ?_))
      exact q_vretE C hr hlo dX5_put_23
def f_X5_numberAt (F : Nat) (k0 : Nat) (a1 : Int) (σ : St) : Option (Int) :=
  z_ob 5 k0 <| 
  if a1 < 0 then (
    z_gt 0 fun v1 =>
    some v1)
  else (
    z_gt (σ k0 2) fun v2 =>
    if v2 ≤ a1 then (
      z_gt 0 fun v3 =>
      some v3)
    else (
      z_ix a1 60 <| z_gt (σ (k0 + 1) a1) fun v4 =>
      some v4))
theorem cb_X5_numberAt : CB yX5_numberAt cX5_numberAt 2 (some .long) 1 := ⟨ki_X5_numberAt, kq_X5_numberAt, kn_X5, kc_X5_numberAt, by decide +kernel, by decide +kernel, by decide +kernel⟩
set_option maxRecDepth 20000 in
set_option maxHeartbeats 4000000 in
theorem m_X5_numberAt (l : Launch) (G : GG) (F : Nat) (k0 : Nat) (a1 : Int32) (σ : St) : ∀ r, f_X5_numberAt F k0 a1.toInt σ = some r → MC G l yX5_numberAt cX5_numberAt 2 (some .long) { frames := 0, cells := 0, slots := 0, locals := 0 } [.ref (gad G k0), .int a1] σ (vL r) σ := by
  refine MC_of (own := RX5) (vL) (fun _ => σ) (by decide +kernel) rfl (Nat.le_of_ble_eq_true rfl) ?_
  intro p e s m args below meth c C hr hlo ls hl
  have hl : lv_has ls 2 [(0, .ref (gad G k0)), (1, .int a1)] := hl
  unfold f_X5_numberAt
  refine q_ob (fun hk0 => ?_)
  refine q_iload_n C dX5_numberAt_0 rfl (lv_at hl 1 rfl) ?_
  refine q_if_lt C 21 dX5_numberAt_1 (by decide) ?_ ?_
  · refine q_lconst C dX5_numberAt_21 rfl (by decide) (fun v1 => ?_)
    exact q_lret C hr hlo dX5_numberAt_22
  · refine q_iload_n C dX5_numberAt_4 rfl (lv_at hl 1 rfl) ?_
    refine q_aload_n C dX5_numberAt_5 rfl (lv_at hl 0 rfl) ?_
    refine g_5_2 C hk0 kf_X5_32 dX5_numberAt_6 (fun v2 => ?_)
    refine q_icmp_ge C 21 dX5_numberAt_9 (by decide) ?_ ?_
    · refine q_lconst C dX5_numberAt_21 rfl (by decide) (fun v3 => ?_)
      exact q_lret C hr hlo dX5_numberAt_22
    · refine q_aload_n C dX5_numberAt_12 rfl (lv_at hl 0 rfl) ?_
      refine g_5_3 C hk0 kf_X5_9 dX5_numberAt_13 ?_
      refine q_iload_n C dX5_numberAt_16 rfl (lv_at hl 1 rfl) ?_
      refine a_lld C (yk_5_3 hk0) (yl_5_3 hk0) dX5_numberAt_17 (fun v4 => ?_)
      refine q_goto C 22 dX5_numberAt_18 (by decide) ?_
      exact q_lret C hr hlo dX5_numberAt_22
def f_X5_reaches (F : Nat) (k0 : Nat) (a1 : Int) (a2 : Int) (σ : St) : Option (Int) :=
  z_ob 5 k0 <| 
  if a1 < 0 then (
    z_gt 0 fun v1 =>
    z_bo v1 <| some v1)
  else (
    if a2 < 0 then (
      z_gt 0 fun v2 =>
      z_bo v2 <| some v2)
    else (
      z_gt a1 fun v3 =>
      z_gt a2 fun v4 =>
      z_lk (v3 + v4) fun v5 =>
      z_gt (σ k0 2) fun v6 =>
      z_gt v6 fun v7 =>
      z_gt (z_cmp v5 v7) fun v8 =>
      if 0 < v8 then (
        z_gt 0 fun v9 =>
        z_bo v9 <| some v9)
      else (
        z_gt 1 fun v10 =>
        z_bo v10 <| some v10)))
theorem cb_X5_reaches : CB yX5_reaches cX5_reaches 3 (some .boolean) 2 := ⟨ki_X5_reaches, kq_X5_reaches, kn_X5, kc_X5_reaches, by decide +kernel, by decide +kernel, by decide +kernel⟩
set_option maxRecDepth 20000 in
set_option maxHeartbeats 4000000 in
theorem m_X5_reaches (l : Launch) (G : GG) (F : Nat) (k0 : Nat) (a1 : Int32) (a2 : Int32) (σ : St) : ∀ r, f_X5_reaches F k0 a1.toInt a2.toInt σ = some r → MC G l yX5_reaches cX5_reaches 3 (some .boolean) { frames := 0, cells := 0, slots := 0, locals := 0 } [.ref (gad G k0), .int a1, .int a2] σ (vI r) σ := by
  refine MC_of (own := RX5) (vI) (fun _ => σ) (by decide +kernel) rfl (Nat.le_of_ble_eq_true rfl) ?_
  intro p e s m args below meth c C hr hlo ls hl
  have hl : lv_has ls 3 [(0, .ref (gad G k0)), (1, .int a1), (2, .int a2)] := hl
  unfold f_X5_reaches
  refine q_ob (fun hk0 => ?_)
  refine q_iload_n C dX5_reaches_0 rfl (lv_at hl 1 rfl) ?_
  refine q_if_lt C 26 dX5_reaches_1 (by decide) ?_ ?_
  · refine q_iconst C dX5_reaches_26 rfl (by decide) (fun v1 => ?_)
    exact q_zret C hr hlo dX5_reaches_27
  · refine q_iload_n C dX5_reaches_4 rfl (lv_at hl 2 rfl) ?_
    refine q_if_lt C 26 dX5_reaches_5 (by decide) ?_ ?_
    · refine q_iconst C dX5_reaches_26 rfl (by decide) (fun v2 => ?_)
      exact q_zret C hr hlo dX5_reaches_27
    · refine q_iload_n C dX5_reaches_8 rfl (lv_at hl 1 rfl) ?_
      refine q_i2l C dX5_reaches_9 (fun v3 => ?_)
      refine q_iload_n C dX5_reaches_10 rfl (lv_at hl 2 rfl) ?_
      refine q_i2l C dX5_reaches_11 (fun v4 => ?_)
      refine q_ladd C dX5_reaches_12 (fun v5 => ?_)
      refine q_aload_n C dX5_reaches_13 rfl (lv_at hl 0 rfl) ?_
      refine g_5_2 C hk0 kf_X5_32 dX5_reaches_14 (fun v6 => ?_)
      refine q_i2l C dX5_reaches_17 (fun v7 => ?_)
      refine q_lcmp C dX5_reaches_18 (fun v8 => ?_)
      refine q_if_gt C 26 dX5_reaches_19 (by decide) ?_ ?_
      · refine q_iconst C dX5_reaches_26 rfl (by decide) (fun v9 => ?_)
        exact q_zret C hr hlo dX5_reaches_27
      · refine q_iconst C dX5_reaches_22 rfl (by decide) (fun v10 => ?_)
        refine q_goto C 27 dX5_reaches_23 (by decide) ?_
        exact q_zret C hr hlo dX5_reaches_27
