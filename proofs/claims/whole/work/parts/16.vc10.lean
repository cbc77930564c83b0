set_option maxRecDepth 100000 in
set_option maxHeartbeats 4000000 in
theorem oX10_init (X : Cx) (A : Wd → Prop) (a0 : Nat) (w : Wd)
    (hv : wK w a0 ≠ 0 ∧ ∀ q2 : Nat, wK w q2 = 0 → q2 ≠ 0 → ∀ w3 : Wd, w3 = nA w 18 q2 40 → wK w3 a0 = 11 ∧ ∀ w5 : Wd, w5 = sR w3 10 0 a0 q2 → ∀ q6 : Nat, wK w5 q6 = 0 → q6 ≠ 0 → ∀ w7 : Wd, w7 = nA w5 17 q6 300 → ∀ w9 : Wd, w9 = sR w7 10 1 a0 q6 → ∀ q10 : Nat, wK w9 q10 = 0 → q10 ≠ 0 → ∀ w11 : Wd, w11 = nO w9 1 q10 → Ct X bX1_init mX1_init [vR q10] w11 (qV fun w12 => wK w12 a0 = 11 ∧ ∀ w15 : Wd, w15 = sR w12 10 2 a0 q10 → ∀ q16 : Nat, wK w15 q16 = 0 → q16 ≠ 0 → ∀ w17 : Wd, w17 = nO w15 4 q16 → Ct X bX4_init mX4_init [vR q16, vI 0, vI 0] w17 (qV fun w18 => wK w18 a0 = 11 ∧ ∀ w21 : Wd, w21 = sR w18 10 8 a0 q16 → A w21))) :
    Ct X bX10_init mX10_init [vR a0] w (qV A) := by
  refine Ct.of (lv := [(0, vR a0)]) rfl (Nat.le_of_ble_eq_true rfl) rfl ?_
  refine e_aload_n (pc := 0) (i := 0) dX10_init_0 rfl rfl ?_
  have k1 := hv.1
  replace hv := hv.2
  refine e_objInit (pc := 1) dX10_init_1 (tb_a1 19 (by decide +kernel) rfl) k1 (Nat.le_of_ble_eq_true rfl) (Nat.le_of_ble_eq_true rfl) (Nat.le_of_ble_eq_true rfl) ?_
  refine e_aload_n (pc := 4) (i := 0) dX10_init_4 rfl rfl ?_
  refine e_bipush (pc := 5) (v := 40) dX10_init_5 (by decide) ?_
  refine e_newR (pc := 7) (t := 18) (N := 40) (rc' := 4) (rs' := 406) dX10_init_7 (Or.inr (Or.inr ⟨rfl, rfl⟩)) (tb_a1 22 (by decide +kernel) rfl) (by decide) (by decide) (by decide) rfl rfl (fun q2 hq2 nq2 => ?_)
  obtain ⟨w3, hw3⟩ : ∃ w3 : Wd, w3 = nA w 18 q2 40 := ⟨_, rfl⟩
  replace hv := hv q2 hq2 nq2 w3 hw3
  rw [← hw3]
  have k4 := hv.1
  replace hv := hv.2
  obtain ⟨w5, hw5⟩ : ∃ w5 : Wd, w5 = sR w3 10 0 a0 q2 := ⟨_, rfl⟩
  replace hv := hv w5 hw5
  refine e_putR (pc := 10) dX10_init_10 fRX10_11 (Or.inr ⟨rfl, rfl, rfl⟩) rfl k4 ?_
  rw [← hw5]
  refine e_aload_n (pc := 13) (i := 0) dX10_init_13 rfl rfl ?_
  refine e_sipush (pc := 14) (v := 300) dX10_init_14 (by decide) ?_
  refine e_newR (pc := 17) (t := 17) (N := 300) (rc' := 3) (rs' := 106) dX10_init_17 (Or.inr (Or.inl ⟨rfl, rfl⟩)) (tb_a1 24 (by decide +kernel) rfl) (by decide) (by decide) (by decide) rfl rfl (fun q6 hq6 nq6 => ?_)
  obtain ⟨w7, hw7⟩ : ∃ w7 : Wd, w7 = nA w5 17 q6 300 := ⟨_, rfl⟩
  replace hv := hv q6 hq6 nq6 w7 hw7
  rw [← hw7]
  have k8 : wK w7 a0 = 11 := (by rw [hw7]; exact nA_old (by rw [hw5]; exact k4) hq6)
  obtain ⟨w9, hw9⟩ : ∃ w9 : Wd, w9 = sR w7 10 1 a0 q6 := ⟨_, rfl⟩
  replace hv := hv w9 hw9
  refine e_putR (pc := 20) dX10_init_20 fRX10_17 (Or.inr ⟨rfl, rfl, rfl⟩) rfl k8 ?_
  rw [← hw9]
  refine e_aload_n (pc := 23) (i := 0) dX10_init_23 rfl rfl ?_
  refine e_new (pc := 24) (ci := 1) (rc' := 2) (rs' := 103) dX10_init_24 (by decide) (tb_a1 26 (by decide +kernel) rfl) dv1 rfl rfl (fun q10 hq10 nq10 => ?_)
  obtain ⟨w11, hw11⟩ : ∃ w11 : Wd, w11 = nO w9 1 q10 := ⟨_, rfl⟩
  replace hv := hv q10 hq10 nq10 w11 hw11
  rw [← hw11]
  refine e_dup (pc := 27) dX10_init_27 rfl ?_
  refine e_callIv (pc := 28) (st := [vR q10, vR a0]) (rc' := 1) (rs' := 2) (B' := bX1_init) [] dX10_init_28 vRX10_23 kX1_init rfl rfl (K_ne (by rw [hw11]; exact nO_new)) rfl rfl (Nat.le_of_ble_eq_true rfl) ⟨Nat.le_of_ble_eq_true rfl, Nat.le_of_ble_eq_true rfl⟩ rfl rfl hv (fun w12 hv => ?_)
  have k14 := hv.1
  replace hv := hv.2
  obtain ⟨w15, hw15⟩ : ∃ w15 : Wd, w15 = sR w12 10 2 a0 q10 := ⟨_, rfl⟩
  replace hv := hv w15 hw15
  refine e_putR (pc := 31) dX10_init_31 fRX10_24 (Or.inr ⟨rfl, rfl, rfl⟩) rfl k14 ?_
  rw [← hw15]
  refine e_aload_n (pc := 34) (i := 0) dX10_init_34 rfl rfl ?_
  refine e_new (pc := 35) (ci := 4) (rc' := 0) (rs' := 0) dX10_init_35 (by decide) (tb_a1 44 (by decide +kernel) rfl) dv4 rfl rfl (fun q16 hq16 nq16 => ?_)
  obtain ⟨w17, hw17⟩ : ∃ w17 : Wd, w17 = nO w15 4 q16 := ⟨_, rfl⟩
  replace hv := hv q16 hq16 nq16 w17 hw17
  rw [← hw17]
  refine e_dup (pc := 38) dX10_init_38 rfl ?_
  refine e_iconst (pc := 39) (v := 0) dX10_init_39 (by decide) ?_
  refine e_iconst (pc := 40) (v := 0) dX10_init_40 (by decide) ?_
  refine e_callIv (pc := 41) (st := [vR q16, vR a0]) (rc' := 0) (rs' := 0) (B' := bX4_init) [vI 0, vI 0] dX10_init_41 vRX10_30 kX4_init rfl rfl (K_ne (by rw [hw17]; exact nO_new)) rfl rfl (Nat.le_of_ble_eq_true rfl) ⟨Nat.le_of_ble_eq_true rfl, Nat.le_of_ble_eq_true rfl⟩ rfl rfl hv (fun w18 hv => ?_)
  have k20 := hv.1
  replace hv := hv.2
  obtain ⟨w21, hw21⟩ : ∃ w21 : Wd, w21 = sR w18 10 8 a0 q16 := ⟨_, rfl⟩
  replace hv := hv w21 hw21
  refine e_putR (pc := 44) dX10_init_44 fRX10_33 (Or.inl rfl) rfl k20 ?_
  rw [← hw21]
  exact e_vreturn (pc := 47) dX10_init_47 rfl ⟨rfl, hv⟩
set_option maxRecDepth 100000 in
set_option maxHeartbeats 4000000 in
theorem oX10_folio (X : Cx) (A : Int32 → Wd → Prop) (a0 : Nat) (a1 : Int32) (w : Wd)
    (hv : wK w a0 = 11 ∧ Ct X bX10_folioFault mX10_folioFault [vR a0, vI a1] w (qI fun x2 w1 => wK w1 a0 = 11 ∧ Ct X bX10_settle mX10_settle [vR a0, vI x2] w1 (qI fun x5 w4 => ((¬ x5 = 0) → wK w4 a0 = 11 ∧ ∀ q9 : Nat, wK w4 q9 = 0 → q9 ≠ 0 → ∀ w10 : Wd, w10 = nO w4 3 q9 → Ct X bX3_init mX3_init [vR q9, vI (wI w4 10 3 a0), vI a1] w10 (qV fun w11 => wK w11 (wR w4 10 0 a0) = 18 ∧ wK w11 q9 = 4 ∧ vp_in (wI w4 10 3 a0) (wL w11 (wR w4 10 0 a0)) ∧ ∀ w16 : Wd, w16 = yR w11 (wR w4 10 0 a0) (wI w4 10 3 a0).toNatClampNeg q9 → wK w16 a0 = 11 ∧ ∀ w18 : Wd, w18 = sI w16 10 3 a0 ((wI w16 10 3 a0) + 1) → A (wI w4 10 3 a0) w18)) ∧ ((x5 = 0) → A (-1) w4)))) :
    Ct X bX10_folio mX10_folio [vR a0, vI a1] w (qI A) := by
  refine Ct.of (lv := [(0, vR a0), (1, vI a1)]) rfl (Nat.le_of_ble_eq_true rfl) rfl ?_
  refine e_aload_n (pc := 0) (i := 0) dX10_folio_0 rfl rfl ?_
  refine e_aload_n (pc := 1) (i := 0) dX10_folio_1 rfl rfl ?_
  refine e_iload_n (pc := 2) (i := 1) dX10_folio_2 rfl rfl ?_
  have k3 := hv.1
  replace hv := hv.2
  refine e_callVi (pc := 3) (ci := 10) (st := [vR a0]) (rc' := 1) (rs' := 5) (B' := bX10_folioFault) [vI a1] dX10_folio_3 vRX10_37 kX10_folioFault (by decide) rfl k3 rfl rfl (Nat.le_of_ble_eq_true rfl) ⟨Nat.le_of_ble_eq_true rfl, Nat.le_of_ble_eq_true rfl⟩ rfl rfl hv (fun x2 w1 hv => ?_)
  have k6 := hv.1
  replace hv := hv.2
  refine e_callVi (pc := 6) (ci := 10) (st := []) (rc' := 1) (rs' := 5) (B' := bX10_settle) [vI x2] dX10_folio_6 vRX10_41 kX10_settle (by decide) rfl k6 rfl rfl (Nat.le_of_ble_eq_true rfl) ⟨Nat.le_of_ble_eq_true rfl, Nat.le_of_ble_eq_true rfl⟩ rfl rfl hv (fun x5 w4 hv => ?_)
  refine e_if_ne (pc := 9) (tgt := 14) dX10_folio_9 (by decide) (fun h7 => ?_) (fun h7 => ?_)
  · replace hv := hv.1 h7
    refine e_aload_n (pc := 14) (i := 0) dX10_folio_14 rfl rfl ?_
    have k8 := hv.1
    replace hv := hv.2
    refine e_getI (pc := 15) dX10_folio_15 fRX10_45 rfl k8 ?_
    refine e_istore_n (pc := 18) (i := 2) (lv' := [(0, vR a0), (1, vI a1), (2, vI (wI w4 10 3 a0))]) dX10_folio_18 rfl (by decide) rfl ?_
    refine e_aload_n (pc := 19) (i := 0) dX10_folio_19 rfl rfl ?_
    refine e_getR (pc := 20) dX10_folio_20 fRX10_11 rfl k8 ?_
    refine e_iload_n (pc := 23) (i := 2) dX10_folio_23 rfl rfl ?_
    refine e_new (pc := 24) (ci := 3) (rc' := 0) (rs' := 0) dX10_folio_24 (by decide) (tb_a1 22 (by decide +kernel) rfl) dv3 rfl rfl (fun q9 hq9 nq9 => ?_)
    obtain ⟨w10, hw10⟩ : ∃ w10 : Wd, w10 = nO w4 3 q9 := ⟨_, rfl⟩
    replace hv := hv q9 hq9 nq9 w10 hw10
    rw [← hw10]
    refine e_dup (pc := 27) dX10_folio_27 rfl ?_
    refine e_iload_n (pc := 28) (i := 2) dX10_folio_28 rfl rfl ?_
    refine e_iload_n (pc := 29) (i := 1) dX10_folio_29 rfl rfl ?_
    refine e_callIv (pc := 30) (st := [vR q9, vI (wI w4 10 3 a0), vR (wR w4 10 0 a0)]) (rc' := 0) (rs' := 0) (B' := bX3_init) [vI (wI w4 10 3 a0), vI a1] dX10_folio_30 vRX10_49 kX3_init rfl rfl (K_ne (by rw [hw10]; exact nO_new)) rfl rfl (Nat.le_of_ble_eq_true rfl) ⟨Nat.le_of_ble_eq_true rfl, Nat.le_of_ble_eq_true rfl⟩ rfl rfl hv (fun w11 hv => ?_)
    have k13 := hv.1
    replace hv := hv.2
    have k14 := hv.1
    replace hv := hv.2
    have hi15 := hv.1
    replace hv := hv.2
    obtain ⟨w16, hw16⟩ : ∃ w16 : Wd, w16 = yR w11 (wR w4 10 0 a0) (wI w4 10 3 a0).toNatClampNeg q9 := ⟨_, rfl⟩
    replace hv := hv w16 hw16
    refine e_aast (pc := 33) dX10_folio_33 (Or.inr (Or.inr ⟨rfl, rfl⟩)) k13 k14 hi15 ?_
    rw [← hw16]
    refine e_aload_n (pc := 34) (i := 0) dX10_folio_34 rfl rfl ?_
    refine e_dup (pc := 35) dX10_folio_35 rfl ?_
    have k17 := hv.1
    replace hv := hv.2
    refine e_getI (pc := 36) dX10_folio_36 fRX10_45 rfl k17 ?_
    refine e_iconst (pc := 39) (v := 1) dX10_folio_39 (by decide) ?_
    refine e_iadd (pc := 40) dX10_folio_40 ?_
    obtain ⟨w18, hw18⟩ : ∃ w18 : Wd, w18 = sI w16 10 3 a0 ((wI w16 10 3 a0) + 1) := ⟨_, rfl⟩
    replace hv := hv w18 hw18
    refine e_putI (pc := 41) dX10_folio_41 fRX10_45 (Or.inl rfl) rfl k17 ?_
    rw [← hw18]
    refine e_iload_n (pc := 44) (i := 2) dX10_folio_44 rfl rfl ?_
    exact e_ireturn (pc := 45) dX10_folio_45 rfl ⟨_, rfl, hv⟩
  · replace hv := hv.2 h7
    refine e_iconst (pc := 12) (v := (-1)) dX10_folio_12 (by decide) ?_
    exact e_ireturn (pc := 13) dX10_folio_13 rfl ⟨_, rfl, hv⟩
set_option maxRecDepth 100000 in
set_option maxHeartbeats 4000000 in
theorem oX10_folioFault (X : Cx) (A : Int32 → Wd → Prop) (a0 : Nat) (a1 : Int32) (w : Wd)
    (hv : ((a1 < 1) → A 5 w) ∧ ((¬ a1 < 1) → ((a1 ≤ 60) → wK w a0 = 11 ∧ (((wI w 10 3 a0) < 40) → A 0 w) ∧ ((¬ (wI w 10 3 a0) < 40) → A 10 w)) ∧ ((¬ a1 ≤ 60) → A 5 w))) :
    Ct X bX10_folioFault mX10_folioFault [vR a0, vI a1] w (qI A) := by
  refine Ct.of (lv := [(0, vR a0), (1, vI a1)]) rfl (Nat.le_of_ble_eq_true rfl) rfl ?_
  refine e_iload_n (pc := 0) (i := 1) dX10_folioFault_0 rfl rfl ?_
  refine e_iconst (pc := 1) (v := 1) dX10_folioFault_1 (by decide) ?_
  refine e_icmp_lt (pc := 2) (tgt := 11) dX10_folioFault_2 (by decide) (fun h1 => ?_) (fun h1 => ?_)
  · replace hv := hv.1 h1
    refine e_iconst (pc := 11) (v := 5) dX10_folioFault_11 (by decide) ?_
    exact e_ireturn (pc := 12) dX10_folioFault_12 rfl ⟨_, rfl, hv⟩
  · replace hv := hv.2 h1
    refine e_iload_n (pc := 5) (i := 1) dX10_folioFault_5 rfl rfl ?_
    refine e_bipush (pc := 6) (v := 60) dX10_folioFault_6 (by decide) ?_
    refine e_icmp_le (pc := 8) (tgt := 13) dX10_folioFault_8 (by decide) (fun h2 => ?_) (fun h2 => ?_)
    · replace hv := hv.1 h2
      refine e_aload_n (pc := 13) (i := 0) dX10_folioFault_13 rfl rfl ?_
      have k3 := hv.1
      replace hv := hv.2
      refine e_getI (pc := 14) dX10_folioFault_14 fRX10_45 rfl k3 ?_
      refine e_bipush (pc := 17) (v := 40) dX10_folioFault_17 (by decide) ?_
      refine e_icmp_lt (pc := 19) (tgt := 27) dX10_folioFault_19 (by decide) (fun h4 => ?_) (fun h4 => ?_)
      · replace hv := hv.1 h4
        refine e_iconst (pc := 27) (v := 0) dX10_folioFault_27 (by decide) ?_
        exact e_ireturn (pc := 28) dX10_folioFault_28 rfl ⟨_, rfl, hv⟩
      · replace hv := hv.2 h4
        refine e_bipush (pc := 22) (v := 10) dX10_folioFault_22 (by decide) ?_
        refine e_goto (pc := 24) (tgt := 28) dX10_folioFault_24 (by decide) ?_
        exact e_ireturn (pc := 28) dX10_folioFault_28 rfl ⟨_, rfl, hv⟩
    · replace hv := hv.2 h2
      refine e_iconst (pc := 11) (v := 5) dX10_folioFault_11 (by decide) ?_
      exact e_ireturn (pc := 12) dX10_folioFault_12 rfl ⟨_, rfl, hv⟩
set_option maxRecDepth 100000 in
set_option maxHeartbeats 4000000 in
theorem oX10_tear (X : Cx) (A : Int32 → Wd → Prop) (a0 : Nat) (a1 : Int32) (a2 : Int32) (w : Wd)
    (hv : wK w a0 = 11 ∧ Ct X bX10_folioAt mX10_folioAt [vR a0, vI a1] w (qR fun x2 w1 => Ct X bX10_parcelFault mX10_parcelFault [vR x2, vI a2] w1 (qI fun x5 w4 => wK w4 a0 = 11 ∧ Ct X bX10_settle mX10_settle [vR a0, vI x5] w4 (qI fun x7 w6 => ((x7 = 0) → A 0 w6) ∧ ((¬ x7 = 0) → ((¬ x2 = 0) → wK w6 x2 = 4 ∧ Ct X bX3_tearOff mX3_tearOff [vR x2, vI a2] w6 (qV fun w11 => A 1 w11)) ∧ ((x2 = 0) → A 0 w6)))))) :
    Ct X bX10_tear mX10_tear [vR a0, vI a1, vI a2] w (qI A) := by
  refine Ct.of (lv := [(0, vR a0), (1, vI a1), (2, vI a2)]) rfl (Nat.le_of_ble_eq_true rfl) rfl ?_
  refine e_aload_n (pc := 0) (i := 0) dX10_tear_0 rfl rfl ?_
  refine e_iload_n (pc := 1) (i := 1) dX10_tear_1 rfl rfl ?_
  have k3 := hv.1
  replace hv := hv.2
  refine e_callVr (pc := 2) (ci := 10) (st := []) (rc' := 0) (rs' := 0) (B' := bX10_folioAt) [vI a1] dX10_tear_2 vRX10_50 kX10_folioAt (by decide) rfl k3 rfl rfl (Nat.le_of_ble_eq_true rfl) ⟨Nat.le_of_ble_eq_true rfl, Nat.le_of_ble_eq_true rfl⟩ rfl rfl hv (fun x2 w1 hv => ?_)
  refine e_astore_n (pc := 5) (i := 3) (lv' := [(0, vR a0), (1, vI a1), (2, vI a2), (3, vR x2)]) dX10_tear_5 rfl (by decide) rfl ?_
  refine e_aload_n (pc := 6) (i := 0) dX10_tear_6 rfl rfl ?_
  refine e_aload_n (pc := 7) (i := 3) dX10_tear_7 rfl rfl ?_
  refine e_iload_n (pc := 8) (i := 2) dX10_tear_8 rfl rfl ?_
  refine e_callSi (pc := 9) (st := [vR a0]) (rc' := 0) (rs' := 0) (B' := bX10_parcelFault) [vR x2, vI a2] dX10_tear_9 vRX10_54 kX10_parcelFault rfl rfl (Nat.le_of_ble_eq_true rfl) ⟨Nat.le_of_ble_eq_true rfl, Nat.le_of_ble_eq_true rfl⟩ rfl rfl hv (fun x5 w4 hv => ?_)
  have k8 := hv.1
  replace hv := hv.2
  refine e_callVi (pc := 12) (ci := 10) (st := []) (rc' := 0) (rs' := 0) (B' := bX10_settle) [vI x5] dX10_tear_12 vRX10_41 kX10_settle (by decide) rfl k8 rfl rfl (Nat.le_of_ble_eq_true rfl) ⟨Nat.le_of_ble_eq_true rfl, Nat.le_of_ble_eq_true rfl⟩ rfl rfl hv (fun x7 w6 hv => ?_)
  refine e_if_eq (pc := 15) (tgt := 22) dX10_tear_15 (by decide) (fun h9 => ?_) (fun h9 => ?_)
  · replace hv := hv.1 h9
    refine e_iconst (pc := 22) (v := 0) dX10_tear_22 (by decide) ?_
    exact e_zreturn (pc := 23) dX10_tear_23 rfl (Or.inl rfl) ⟨_, rfl, hv⟩
  · replace hv := hv.2 h9
    refine e_aload_n (pc := 18) (i := 3) dX10_tear_18 rfl rfl ?_
    refine e_ifnonnull (pc := 19) (tgt := 24) dX10_tear_19 (by decide) (fun h10 => ?_) (fun h10 => ?_)
    · replace hv := hv.1 h10
      refine e_aload_n (pc := 24) (i := 3) dX10_tear_24 rfl rfl ?_
      refine e_iload_n (pc := 25) (i := 2) dX10_tear_25 rfl rfl ?_
      have k13 := hv.1
      replace hv := hv.2
      refine e_callVv (pc := 26) (ci := 3) (st := []) (rc' := 0) (rs' := 0) (B' := bX3_tearOff) [vI a2] dX10_tear_26 vRX10_58 kX3_tearOff (by decide) rfl k13 rfl rfl (Nat.le_of_ble_eq_true rfl) ⟨Nat.le_of_ble_eq_true rfl, Nat.le_of_ble_eq_true rfl⟩ rfl rfl hv (fun w11 hv => ?_)
      refine e_iconst (pc := 29) (v := 1) dX10_tear_29 (by decide) ?_
      exact e_zreturn (pc := 30) dX10_tear_30 rfl (Or.inr rfl) ⟨_, rfl, hv⟩
    · replace hv := hv.2 h10
      refine e_iconst (pc := 22) (v := 0) dX10_tear_22 (by decide) ?_
      exact e_zreturn (pc := 23) dX10_tear_23 rfl (Or.inl rfl) ⟨_, rfl, hv⟩
set_option maxRecDepth 100000 in
set_option maxHeartbeats 4000000 in
theorem oX10_day (X : Cx) (A : Int32 → Wd → Prop) (a0 : Nat) (a1 : Int32) (w : Wd)
    (hv : wK w a0 = 11 ∧ Ct X bX10_dayFault mX10_dayFault [vR a0, vI a1] w (qI fun x2 w1 => wK w1 a0 = 11 ∧ Ct X bX10_settle mX10_settle [vR a0, vI x2] w1 (qI fun x5 w4 => ((¬ x5 = 0) → ∀ q8 : Nat, wK w4 q8 = 0 → q8 ≠ 0 → ∀ w9 : Wd, w9 = nO w4 4 q8 → Ct X bX4_init mX4_init [vR q8, vI a1, vI a1] w9 (qV fun w10 => wK w10 a0 = 11 ∧ ∀ w13 : Wd, w13 = sR w10 10 8 a0 q8 → ∀ w15 : Wd, w15 = sI w13 10 9 a0 a1 → A 1 w15)) ∧ ((x5 = 0) → A 0 w4)))) :
    Ct X bX10_day mX10_day [vR a0, vI a1] w (qI A) := by
  refine Ct.of (lv := [(0, vR a0), (1, vI a1)]) rfl (Nat.le_of_ble_eq_true rfl) rfl ?_
  refine e_aload_n (pc := 0) (i := 0) dX10_day_0 rfl rfl ?_
  refine e_aload_n (pc := 1) (i := 0) dX10_day_1 rfl rfl ?_
  refine e_iload_n (pc := 2) (i := 1) dX10_day_2 rfl rfl ?_
  have k3 := hv.1
  replace hv := hv.2
  refine e_callVi (pc := 3) (ci := 10) (st := [vR a0]) (rc' := 1) (rs' := 2) (B' := bX10_dayFault) [vI a1] dX10_day_3 vRX10_62 kX10_dayFault (by decide) rfl k3 rfl rfl (Nat.le_of_ble_eq_true rfl) ⟨Nat.le_of_ble_eq_true rfl, Nat.le_of_ble_eq_true rfl⟩ rfl rfl hv (fun x2 w1 hv => ?_)
  have k6 := hv.1
  replace hv := hv.2
  refine e_callVi (pc := 6) (ci := 10) (st := []) (rc' := 1) (rs' := 2) (B' := bX10_settle) [vI x2] dX10_day_6 vRX10_41 kX10_settle (by decide) rfl k6 rfl rfl (Nat.le_of_ble_eq_true rfl) ⟨Nat.le_of_ble_eq_true rfl, Nat.le_of_ble_eq_true rfl⟩ rfl rfl hv (fun x5 w4 hv => ?_)
  refine e_if_ne (pc := 9) (tgt := 14) dX10_day_9 (by decide) (fun h7 => ?_) (fun h7 => ?_)
  · replace hv := hv.1 h7
    refine e_aload_n (pc := 14) (i := 0) dX10_day_14 rfl rfl ?_
    refine e_new (pc := 15) (ci := 4) (rc' := 0) (rs' := 0) dX10_day_15 (by decide) (tb_a1 44 (by decide +kernel) rfl) dv4 rfl rfl (fun q8 hq8 nq8 => ?_)
    obtain ⟨w9, hw9⟩ : ∃ w9 : Wd, w9 = nO w4 4 q8 := ⟨_, rfl⟩
    replace hv := hv q8 hq8 nq8 w9 hw9
    rw [← hw9]
    refine e_dup (pc := 18) dX10_day_18 rfl ?_
    refine e_iload_n (pc := 19) (i := 1) dX10_day_19 rfl rfl ?_
    refine e_iload_n (pc := 20) (i := 1) dX10_day_20 rfl rfl ?_
    refine e_callIv (pc := 21) (st := [vR q8, vR a0]) (rc' := 0) (rs' := 0) (B' := bX4_init) [vI a1, vI a1] dX10_day_21 vRX10_30 kX4_init rfl rfl (K_ne (by rw [hw9]; exact nO_new)) rfl rfl (Nat.le_of_ble_eq_true rfl) ⟨Nat.le_of_ble_eq_true rfl, Nat.le_of_ble_eq_true rfl⟩ rfl rfl hv (fun w10 hv => ?_)
    have k12 := hv.1
    replace hv := hv.2
    obtain ⟨w13, hw13⟩ : ∃ w13 : Wd, w13 = sR w10 10 8 a0 q8 := ⟨_, rfl⟩
    replace hv := hv w13 hw13
    refine e_putR (pc := 24) dX10_day_24 fRX10_33 (Or.inl rfl) rfl k12 ?_
    rw [← hw13]
    refine e_aload_n (pc := 27) (i := 0) dX10_day_27 rfl rfl ?_
    refine e_iload_n (pc := 28) (i := 1) dX10_day_28 rfl rfl ?_
    have k14 : wK w13 a0 = 11 := (by rw [hw13]; exact k12)
    obtain ⟨w15, hw15⟩ : ∃ w15 : Wd, w15 = sI w13 10 9 a0 a1 := ⟨_, rfl⟩
    replace hv := hv w15 hw15
    refine e_putI (pc := 29) dX10_day_29 fRX10_65 (Or.inl rfl) rfl k14 ?_
    rw [← hw15]
    refine e_iconst (pc := 32) (v := 1) dX10_day_32 (by decide) ?_
    exact e_zreturn (pc := 33) dX10_day_33 rfl (Or.inr rfl) ⟨_, rfl, hv⟩
  · replace hv := hv.2 h7
    refine e_iconst (pc := 12) (v := 0) dX10_day_12 (by decide) ?_
    exact e_zreturn (pc := 13) dX10_day_13 rfl (Or.inl rfl) ⟨_, rfl, hv⟩
set_option maxRecDepth 100000 in
set_option maxHeartbeats 4000000 in
theorem oX10_dayFault (X : Cx) (A : Int32 → Wd → Prop) (a0 : Nat) (a1 : Int32) (w : Wd)
    (hv : ((a1 ≤ 36500) → wK w a0 = 11 ∧ wK w (wR w 10 8 a0) = 5 ∧ (((wI w 4 0 (wR w 10 8 a0)) ≤ a1) → A 0 w) ∧ ((¬ (wI w 4 0 (wR w 10 8 a0)) ≤ a1) → A 8 w)) ∧ ((¬ a1 ≤ 36500) → A 5 w)) :
    Ct X bX10_dayFault mX10_dayFault [vR a0, vI a1] w (qI A) := by
  refine Ct.of (lv := [(0, vR a0), (1, vI a1)]) rfl (Nat.le_of_ble_eq_true rfl) rfl ?_
  refine e_iload_n (pc := 0) (i := 1) dX10_dayFault_0 rfl rfl ?_
  refine e_ldc (pc := 1) (v := 36500) dX10_dayFault_1 (tb_a1 174 (by decide +kernel) rfl) ?_
  refine e_icmp_le (pc := 3) (tgt := 8) dX10_dayFault_3 (by decide) (fun h1 => ?_) (fun h1 => ?_)
  · replace hv := hv.1 h1
    refine e_iload_n (pc := 8) (i := 1) dX10_dayFault_8 rfl rfl ?_
    refine e_aload_n (pc := 9) (i := 0) dX10_dayFault_9 rfl rfl ?_
    have k2 := hv.1
    replace hv := hv.2
    refine e_getR (pc := 10) dX10_dayFault_10 fRX10_33 rfl k2 ?_
    have k3 := hv.1
    replace hv := hv.2
    refine e_getI (pc := 13) dX10_dayFault_13 fRX10_69 rfl k3 ?_
    refine e_icmp_ge (pc := 16) (tgt := 24) dX10_dayFault_16 (by decide) (fun h4 => ?_) (fun h4 => ?_)
    · replace hv := hv.1 h4
      refine e_iconst (pc := 24) (v := 0) dX10_dayFault_24 (by decide) ?_
      exact e_ireturn (pc := 25) dX10_dayFault_25 rfl ⟨_, rfl, hv⟩
    · replace hv := hv.2 h4
      refine e_bipush (pc := 19) (v := 8) dX10_dayFault_19 (by decide) ?_
      refine e_goto (pc := 21) (tgt := 25) dX10_dayFault_21 (by decide) ?_
      exact e_ireturn (pc := 25) dX10_dayFault_25 rfl ⟨_, rfl, hv⟩
  · replace hv := hv.2 h1
    refine e_iconst (pc := 6) (v := 5) dX10_dayFault_6 (by decide) ?_
    exact e_ireturn (pc := 7) dX10_dayFault_7 rfl ⟨_, rfl, hv⟩
set_option maxRecDepth 100000 in
set_option maxHeartbeats 4000000 in
theorem oX10_since (X : Cx) (A : Int32 → Wd → Prop) (a0 : Nat) (a1 : Int32) (w : Wd)
    (hv : wK w a0 = 11 ∧ Ct X bX10_isPastOrToday mX10_isPastOrToday [vR a0, vI a1] w (qI fun x2 w1 => ((x2 = 0) → wK w1 a0 = 11 ∧ Ct X bX10_settle mX10_settle [vR a0, vI 5] w1 (qI fun x6 w5 => ((¬ x6 = 0) → wK w5 a0 = 11 ∧ ∀ w10 : Wd, w10 = sI w5 10 9 a0 a1 → A 1 w10) ∧ ((x6 = 0) → A 0 w5))) ∧ ((¬ x2 = 0) → wK w1 a0 = 11 ∧ Ct X bX10_settle mX10_settle [vR a0, vI 0] w1 (qI fun x12 w11 => ((¬ x12 = 0) → wK w11 a0 = 11 ∧ ∀ w16 : Wd, w16 = sI w11 10 9 a0 a1 → A 1 w16) ∧ ((x12 = 0) → A 0 w11))))) :
    Ct X bX10_since mX10_since [vR a0, vI a1] w (qI A) := by
  refine Ct.of (lv := [(0, vR a0), (1, vI a1)]) rfl (Nat.le_of_ble_eq_true rfl) rfl ?_
  refine e_aload_n (pc := 0) (i := 0) dX10_since_0 rfl rfl ?_
  refine e_aload_n (pc := 1) (i := 0) dX10_since_1 rfl rfl ?_
  refine e_iload_n (pc := 2) (i := 1) dX10_since_2 rfl rfl ?_
  have k3 := hv.1
  replace hv := hv.2
  refine e_callVi (pc := 3) (ci := 10) (st := [vR a0]) (rc' := 0) (rs' := 0) (B' := bX10_isPastOrToday) [vI a1] dX10_since_3 vRX10_72 kX10_isPastOrToday (by decide) rfl k3 rfl rfl (Nat.le_of_ble_eq_true rfl) ⟨Nat.le_of_ble_eq_true rfl, Nat.le_of_ble_eq_true rfl⟩ rfl rfl hv (fun x2 w1 hv => ?_)
  refine e_if_eq (pc := 6) (tgt := 13) dX10_since_6 (by decide) (fun h4 => ?_) (fun h4 => ?_)
  · replace hv := hv.1 h4
    refine e_iconst (pc := 13) (v := 5) dX10_since_13 (by decide) ?_
    have k7 := hv.1
    replace hv := hv.2
    refine e_callVi (pc := 14) (ci := 10) (st := []) (rc' := 0) (rs' := 0) (B' := bX10_settle) [vI 5] dX10_since_14 vRX10_41 kX10_settle (by decide) rfl k7 rfl rfl (Nat.le_of_ble_eq_true rfl) ⟨Nat.le_of_ble_eq_true rfl, Nat.le_of_ble_eq_true rfl⟩ rfl rfl hv (fun x6 w5 hv => ?_)
    refine e_if_ne (pc := 17) (tgt := 22) dX10_since_17 (by decide) (fun h8 => ?_) (fun h8 => ?_)
    · replace hv := hv.1 h8
      refine e_aload_n (pc := 22) (i := 0) dX10_since_22 rfl rfl ?_
      refine e_iload_n (pc := 23) (i := 1) dX10_since_23 rfl rfl ?_
      have k9 := hv.1
      replace hv := hv.2
      obtain ⟨w10, hw10⟩ : ∃ w10 : Wd, w10 = sI w5 10 9 a0 a1 := ⟨_, rfl⟩
      replace hv := hv w10 hw10
      refine e_putI (pc := 24) dX10_since_24 fRX10_65 (Or.inl rfl) rfl k9 ?_
      rw [← hw10]
      refine e_iconst (pc := 27) (v := 1) dX10_since_27 (by decide) ?_
      exact e_zreturn (pc := 28) dX10_since_28 rfl (Or.inr rfl) ⟨_, rfl, hv⟩
    · replace hv := hv.2 h8
      refine e_iconst (pc := 20) (v := 0) dX10_since_20 (by decide) ?_
      exact e_zreturn (pc := 21) dX10_since_21 rfl (Or.inl rfl) ⟨_, rfl, hv⟩
  · replace hv := hv.2 h4
    refine e_iconst (pc := 9) (v := 0) dX10_since_9 (by decide) ?_
    refine e_goto (pc := 10) (tgt := 14) dX10_since_10 (by decide) ?_
    have k13 := hv.1
    replace hv := hv.2
    refine e_callVi (pc := 14) (ci := 10) (st := []) (rc' := 0) (rs' := 0) (B' := bX10_settle) [vI 0] dX10_since_14 vRX10_41 kX10_settle (by decide) rfl k13 rfl rfl (Nat.le_of_ble_eq_true rfl) ⟨Nat.le_of_ble_eq_true rfl, Nat.le_of_ble_eq_true rfl⟩ rfl rfl hv (fun x12 w11 hv => ?_)
    refine e_if_ne (pc := 17) (tgt := 22) dX10_since_17 (by decide) (fun h14 => ?_) (fun h14 => ?_)
    · replace hv := hv.1 h14
      refine e_aload_n (pc := 22) (i := 0) dX10_since_22 rfl rfl ?_
      refine e_iload_n (pc := 23) (i := 1) dX10_since_23 rfl rfl ?_
      have k15 := hv.1
      replace hv := hv.2
      obtain ⟨w16, hw16⟩ : ∃ w16 : Wd, w16 = sI w11 10 9 a0 a1 := ⟨_, rfl⟩
      replace hv := hv w16 hw16
      refine e_putI (pc := 24) dX10_since_24 fRX10_65 (Or.inl rfl) rfl k15 ?_
      rw [← hw16]
      refine e_iconst (pc := 27) (v := 1) dX10_since_27 (by decide) ?_
      exact e_zreturn (pc := 28) dX10_since_28 rfl (Or.inr rfl) ⟨_, rfl, hv⟩
    · replace hv := hv.2 h14
      refine e_iconst (pc := 20) (v := 0) dX10_since_20 (by decide) ?_
      exact e_zreturn (pc := 21) dX10_since_21 rfl (Or.inl rfl) ⟨_, rfl, hv⟩
set_option maxRecDepth 100000 in
set_option maxHeartbeats 4000000 in
theorem oX10_enter (X : Cx) (A : Int32 → Wd → Prop) (a0 : Nat) (a1 : Int32) (a2 : Int32) (a3 : Int64) (a5 : Int32) (a6 : Int64) (w : Wd)
    (hv : wK w a0 = 11 ∧ Ct X bX10_folioAt mX10_folioAt [vR a0, vI a1] w (qR fun x2 w1 => wK w1 a0 = 11 ∧ Ct X bX10_enterFault mX10_enterFault [vR a0, vR x2, vI a2, vJ a3, vI a5, vJ a6] w1 (qI fun x5 w4 => wK w4 a0 = 11 ∧ Ct X bX10_settle mX10_settle [vR a0, vI x5] w4 (qI fun x8 w7 => ((x8 = 0) → A (-1) w7) ∧ ((¬ x8 = 0) → ((¬ x2 = 0) → wK w7 a0 = 11 ∧ Ct X bX10_newAct mX10_newAct [vR a0] w7 (qR fun x13 w12 => ∀ q15 : Nat, wK w12 q15 = 0 → q15 ≠ 0 → ∀ w16 : Wd, w16 = nO w12 8 q15 → wK w16 x13 = 1 ∧ Ct X bX8_init mX8_init [vR q15, vI a2, vI a5, vJ a3, vI (wI w16 0 0 x13)] w16 (qV fun w18 => ∀ q20 : Nat, wK w18 q20 = 0 → q20 ≠ 0 → ∀ w21 : Wd, w21 = nO w18 9 q20 → Ct X bX9_init mX9_init [vR q20, vR x2, vJ a6, vR x13, vR q15] w21 (qV fun w22 => ∀ q24 : Nat, wK w22 q24 = 0 → q24 ≠ 0 → ∀ w25 : Wd, w25 = nO w22 2 q24 → wK w25 a0 = 11 ∧ ((¬ a2 = 3) → Ct X bX2_init mX2_init [vR q24, vI ((wI w25 10 4 a0) + 1), vR q20, vR 0, vJ a3, vI 0] w25 (qV fun w28 => wK w28 q20 = 10 ∧ Ct X bX9_begin mX9_begin [vR q20, vR q24] w28 (qV fun w30 => wK w30 x2 = 4 ∧ Ct X bX3_insert mX3_insert [vR x2, vR q20] w30 (qV fun w33 => wK w33 a0 = 11 ∧ Ct X bX10_addEntry mX10_addEntry [vR a0, vR q24] w33 (qI fun x37 w36 => A x37 w36))))) ∧ ((a2 = 3) → Ct X bX2_init mX2_init [vR q24, vI ((wI w25 10 4 a0) + 1), vR q20, vR 0, vJ 0, vI 0] w25 (qV fun w39 => wK w39 q20 = 10 ∧ Ct X bX9_begin mX9_begin [vR q20, vR q24] w39 (qV fun w41 => wK w41 x2 = 4 ∧ Ct X bX3_insert mX3_insert [vR x2, vR q20] w41 (qV fun w44 => wK w44 a0 = 11 ∧ Ct X bX10_addEntry mX10_addEntry [vR a0, vR q24] w44 (qI fun x48 w47 => A x48 w47))))))))) ∧ ((x2 = 0) → A (-1) w7)))))) :
    Ct X bX10_enter mX10_enter [vR a0, vI a1, vI a2, vJ a3, vI a5, vJ a6] w (qI A) := by
  refine Ct.of (lv := [(0, vR a0), (1, vI a1), (2, vI a2), (3, vJ a3), (5, vI a5), (6, vJ a6)]) rfl (Nat.le_of_ble_eq_true rfl) rfl ?_
  refine e_aload_n (pc := 0) (i := 0) dX10_enter_0 rfl rfl ?_
  refine e_iload_n (pc := 1) (i := 1) dX10_enter_1 rfl rfl ?_
  have k3 := hv.1
  replace hv := hv.2
  refine e_callVr (pc := 2) (ci := 10) (st := []) (rc' := 4) (rs' := 40) (B' := bX10_folioAt) [vI a1] dX10_enter_2 vRX10_50 kX10_folioAt (by decide) rfl k3 rfl rfl (Nat.le_of_ble_eq_true rfl) ⟨Nat.le_of_ble_eq_true rfl, Nat.le_of_ble_eq_true rfl⟩ rfl rfl hv (fun x2 w1 hv => ?_)
  refine e_astore (pc := 5) (i := 8) (lv' := [(0, vR a0), (1, vI a1), (2, vI a2), (3, vJ a3), (5, vI a5), (6, vJ a6), (8, vR x2)]) dX10_enter_5 (by decide) rfl ?_
  refine e_aload_n (pc := 7) (i := 0) dX10_enter_7 rfl rfl ?_
  refine e_aload_n (pc := 8) (i := 0) dX10_enter_8 rfl rfl ?_
  refine e_aload (pc := 9) (i := 8) dX10_enter_9 rfl ?_
  refine e_iload_n (pc := 11) (i := 2) dX10_enter_11 rfl rfl ?_
  refine e_lload_n (pc := 12) (i := 3) dX10_enter_12 rfl rfl ?_
  refine e_iload (pc := 13) (i := 5) dX10_enter_13 rfl ?_
  refine e_lload (pc := 15) (i := 6) dX10_enter_15 rfl ?_
  have k6 := hv.1
  replace hv := hv.2
  refine e_callVi (pc := 17) (ci := 10) (st := [vR a0]) (rc' := 4) (rs' := 40) (B' := bX10_enterFault) [vR x2, vI a2, vJ a3, vI a5, vJ a6] dX10_enter_17 vRX10_75 kX10_enterFault (by decide) rfl k6 rfl rfl (Nat.le_of_ble_eq_true rfl) ⟨Nat.le_of_ble_eq_true rfl, Nat.le_of_ble_eq_true rfl⟩ rfl rfl hv (fun x5 w4 hv => ?_)
  have k9 := hv.1
  replace hv := hv.2
  refine e_callVi (pc := 20) (ci := 10) (st := []) (rc' := 4) (rs' := 40) (B' := bX10_settle) [vI x5] dX10_enter_20 vRX10_41 kX10_settle (by decide) rfl k9 rfl rfl (Nat.le_of_ble_eq_true rfl) ⟨Nat.le_of_ble_eq_true rfl, Nat.le_of_ble_eq_true rfl⟩ rfl rfl hv (fun x8 w7 hv => ?_)
  refine e_if_eq (pc := 23) (tgt := 31) dX10_enter_23 (by decide) (fun h10 => ?_) (fun h10 => ?_)
  · replace hv := hv.1 h10
    refine e_iconst (pc := 31) (v := (-1)) dX10_enter_31 (by decide) ?_
    exact e_ireturn (pc := 32) dX10_enter_32 rfl ⟨_, rfl, hv⟩
  · replace hv := hv.2 h10
    refine e_aload (pc := 26) (i := 8) dX10_enter_26 rfl ?_
    refine e_ifnonnull (pc := 28) (tgt := 33) dX10_enter_28 (by decide) (fun h11 => ?_) (fun h11 => ?_)
    · replace hv := hv.1 h11
      refine e_aload_n (pc := 33) (i := 0) dX10_enter_33 rfl rfl ?_
      have k14 := hv.1
      replace hv := hv.2
      refine e_callVr (pc := 34) (ci := 10) (st := []) (rc' := 3) (rs' := 38) (B' := bX10_newAct) [] dX10_enter_34 vRX10_79 kX10_newAct (by decide) rfl k14 rfl rfl (Nat.le_of_ble_eq_true rfl) ⟨Nat.le_of_ble_eq_true rfl, Nat.le_of_ble_eq_true rfl⟩ rfl rfl hv (fun x13 w12 hv => ?_)
      refine e_astore (pc := 37) (i := 9) (lv' := [(0, vR a0), (1, vI a1), (2, vI a2), (3, vJ a3), (5, vI a5), (6, vJ a6), (8, vR x2), (9, vR x13)]) dX10_enter_37 (by decide) rfl ?_
      refine e_new (pc := 39) (ci := 8) (rc' := 2) (rs' := 30) dX10_enter_39 (by decide) (tb_a1 224 (by decide +kernel) rfl) dv8 rfl rfl (fun q15 hq15 nq15 => ?_)
      obtain ⟨w16, hw16⟩ : ∃ w16 : Wd, w16 = nO w12 8 q15 := ⟨_, rfl⟩
      replace hv := hv q15 hq15 nq15 w16 hw16
      rw [← hw16]
      refine e_dup (pc := 42) dX10_enter_42 rfl ?_
      refine e_iload_n (pc := 43) (i := 2) dX10_enter_43 rfl rfl ?_
      refine e_iload (pc := 44) (i := 5) dX10_enter_44 rfl ?_
      refine e_lload_n (pc := 46) (i := 3) dX10_enter_46 rfl rfl ?_
      refine e_aload (pc := 47) (i := 9) dX10_enter_47 rfl ?_
      have k17 := hv.1
      replace hv := hv.2
      refine e_getI (pc := 49) dX10_enter_49 fRX10_85 rfl k17 ?_
      refine e_callIv (pc := 52) (st := [vR q15]) (rc' := 2) (rs' := 30) (B' := bX8_init) [vI a2, vI a5, vJ a3, vI (wI w16 0 0 x13)] dX10_enter_52 vRX10_90 kX8_init rfl rfl (K_ne (by rw [hw16]; exact nO_new)) rfl rfl (Nat.le_of_ble_eq_true rfl) ⟨Nat.le_of_ble_eq_true rfl, Nat.le_of_ble_eq_true rfl⟩ rfl rfl hv (fun w18 hv => ?_)
      refine e_astore (pc := 55) (i := 10) (lv' := [(0, vR a0), (1, vI a1), (2, vI a2), (3, vJ a3), (5, vI a5), (6, vJ a6), (8, vR x2), (9, vR x13), (10, vR q15)]) dX10_enter_55 (by decide) rfl ?_
      refine e_new (pc := 57) (ci := 9) (rc' := 1) (rs' := 13) dX10_enter_57 (by decide) (tb_a2 23 (by decide +kernel) rfl) dv9 rfl rfl (fun q20 hq20 nq20 => ?_)
      obtain ⟨w21, hw21⟩ : ∃ w21 : Wd, w21 = nO w18 9 q20 := ⟨_, rfl⟩
      replace hv := hv q20 hq20 nq20 w21 hw21
      rw [← hw21]
      refine e_dup (pc := 60) dX10_enter_60 rfl ?_
      refine e_aload (pc := 61) (i := 8) dX10_enter_61 rfl ?_
      refine e_lload (pc := 63) (i := 6) dX10_enter_63 rfl ?_
      refine e_aload (pc := 65) (i := 9) dX10_enter_65 rfl ?_
      refine e_aload (pc := 67) (i := 10) dX10_enter_67 rfl ?_
      refine e_callIv (pc := 69) (st := [vR q20]) (rc' := 1) (rs' := 13) (B' := bX9_init) [vR x2, vJ a6, vR x13, vR q15] dX10_enter_69 vRX10_95 kX9_init rfl rfl (K_ne (by rw [hw21]; exact nO_new)) rfl rfl (Nat.le_of_ble_eq_true rfl) ⟨Nat.le_of_ble_eq_true rfl, Nat.le_of_ble_eq_true rfl⟩ rfl rfl hv (fun w22 hv => ?_)
      refine e_astore (pc := 72) (i := 11) (lv' := [(0, vR a0), (1, vI a1), (2, vI a2), (3, vJ a3), (5, vI a5), (6, vJ a6), (8, vR x2), (9, vR x13), (10, vR q15), (11, vR q20)]) dX10_enter_72 (by decide) rfl ?_
      refine e_new (pc := 74) (ci := 2) (rc' := 0) (rs' := 0) dX10_enter_74 (by decide) (tb_a1 24 (by decide +kernel) rfl) dv2 rfl rfl (fun q24 hq24 nq24 => ?_)
      obtain ⟨w25, hw25⟩ : ∃ w25 : Wd, w25 = nO w22 2 q24 := ⟨_, rfl⟩
      replace hv := hv q24 hq24 nq24 w25 hw25
      rw [← hw25]
      refine e_dup (pc := 77) dX10_enter_77 rfl ?_
      refine e_aload_n (pc := 78) (i := 0) dX10_enter_78 rfl rfl ?_
      have k26 := hv.1
      replace hv := hv.2
      refine e_getI (pc := 79) dX10_enter_79 fRX10_98 rfl k26 ?_
      refine e_iconst (pc := 82) (v := 1) dX10_enter_82 (by decide) ?_
      refine e_iadd (pc := 83) dX10_enter_83 ?_
      refine e_aload (pc := 84) (i := 11) dX10_enter_84 rfl ?_
      refine e_null (pc := 86) dX10_enter_86 ?_
      refine e_iload_n (pc := 87) (i := 2) dX10_enter_87 rfl rfl ?_
      refine e_iconst (pc := 88) (v := 3) dX10_enter_88 (by decide) ?_
      refine e_icmp_ne (pc := 89) (tgt := 96) dX10_enter_89 (by decide) (fun h27 => ?_) (fun h27 => ?_)
      · replace hv := hv.1 h27
        refine e_lload_n (pc := 96) (i := 3) dX10_enter_96 rfl rfl ?_
        refine e_iconst (pc := 97) (v := 0) dX10_enter_97 (by decide) ?_
        refine e_callIv (pc := 98) (st := [vR q24]) (rc' := 0) (rs' := 0) (B' := bX2_init) [vI ((wI w25 10 4 a0) + 1), vR q20, vR 0, vJ a3, vI 0] dX10_enter_98 vRX10_101 kX2_init rfl rfl (K_ne (by rw [hw25]; exact nO_new)) rfl rfl (Nat.le_of_ble_eq_true rfl) ⟨Nat.le_of_ble_eq_true rfl, Nat.le_of_ble_eq_true rfl⟩ rfl rfl hv (fun w28 hv => ?_)
        refine e_astore (pc := 101) (i := 12) (lv' := [(0, vR a0), (1, vI a1), (2, vI a2), (3, vJ a3), (5, vI a5), (6, vJ a6), (8, vR x2), (9, vR x13), (10, vR q15), (11, vR q20), (12, vR q24)]) dX10_enter_101 (by decide) rfl ?_
        refine e_aload (pc := 103) (i := 11) dX10_enter_103 rfl ?_
        refine e_aload (pc := 105) (i := 12) dX10_enter_105 rfl ?_
        have k32 := hv.1
        replace hv := hv.2
        refine e_callVv (pc := 107) (ci := 9) (st := []) (rc' := 0) (rs' := 0) (B' := bX9_begin) [vR q24] dX10_enter_107 vRX10_104 kX9_begin (by decide) rfl k32 rfl rfl (Nat.le_of_ble_eq_true rfl) ⟨Nat.le_of_ble_eq_true rfl, Nat.le_of_ble_eq_true rfl⟩ rfl rfl hv (fun w30 hv => ?_)
        refine e_aload (pc := 110) (i := 8) dX10_enter_110 rfl ?_
        refine e_aload (pc := 112) (i := 11) dX10_enter_112 rfl ?_
        have k35 := hv.1
        replace hv := hv.2
        refine e_callVv (pc := 114) (ci := 3) (st := []) (rc' := 0) (rs' := 0) (B' := bX3_insert) [vR q20] dX10_enter_114 vRX10_108 kX3_insert (by decide) rfl k35 rfl rfl (Nat.le_of_ble_eq_true rfl) ⟨Nat.le_of_ble_eq_true rfl, Nat.le_of_ble_eq_true rfl⟩ rfl rfl hv (fun w33 hv => ?_)
        refine e_aload_n (pc := 117) (i := 0) dX10_enter_117 rfl rfl ?_
        refine e_aload (pc := 118) (i := 12) dX10_enter_118 rfl ?_
        have k38 := hv.1
        replace hv := hv.2
        refine e_callVi (pc := 120) (ci := 10) (st := []) (rc' := 0) (rs' := 0) (B' := bX10_addEntry) [vR q24] dX10_enter_120 vRX10_112 kX10_addEntry (by decide) rfl k38 rfl rfl (Nat.le_of_ble_eq_true rfl) ⟨Nat.le_of_ble_eq_true rfl, Nat.le_of_ble_eq_true rfl⟩ rfl rfl hv (fun x37 w36 hv => ?_)
        exact e_ireturn (pc := 123) dX10_enter_123 rfl ⟨_, rfl, hv⟩
      · replace hv := hv.2 h27
        refine e_lconst (pc := 92) (v := 0) dX10_enter_92 (by decide) ?_
        refine e_goto (pc := 93) (tgt := 97) dX10_enter_93 (by decide) ?_
        refine e_iconst (pc := 97) (v := 0) dX10_enter_97 (by decide) ?_
        refine e_callIv (pc := 98) (st := [vR q24]) (rc' := 0) (rs' := 0) (B' := bX2_init) [vI ((wI w25 10 4 a0) + 1), vR q20, vR 0, vJ 0, vI 0] dX10_enter_98 vRX10_101 kX2_init rfl rfl (K_ne (by rw [hw25]; exact nO_new)) rfl rfl (Nat.le_of_ble_eq_true rfl) ⟨Nat.le_of_ble_eq_true rfl, Nat.le_of_ble_eq_true rfl⟩ rfl rfl hv (fun w39 hv => ?_)
        refine e_astore (pc := 101) (i := 12) (lv' := [(0, vR a0), (1, vI a1), (2, vI a2), (3, vJ a3), (5, vI a5), (6, vJ a6), (8, vR x2), (9, vR x13), (10, vR q15), (11, vR q20), (12, vR q24)]) dX10_enter_101 (by decide) rfl ?_
        refine e_aload (pc := 103) (i := 11) dX10_enter_103 rfl ?_
        refine e_aload (pc := 105) (i := 12) dX10_enter_105 rfl ?_
        have k43 := hv.1
        replace hv := hv.2
        refine e_callVv (pc := 107) (ci := 9) (st := []) (rc' := 0) (rs' := 0) (B' := bX9_begin) [vR q24] dX10_enter_107 vRX10_104 kX9_begin (by decide) rfl k43 rfl rfl (Nat.le_of_ble_eq_true rfl) ⟨Nat.le_of_ble_eq_true rfl, Nat.le_of_ble_eq_true rfl⟩ rfl rfl hv (fun w41 hv => ?_)
        refine e_aload (pc := 110) (i := 8) dX10_enter_110 rfl ?_
        refine e_aload (pc := 112) (i := 11) dX10_enter_112 rfl ?_
        have k46 := hv.1
        replace hv := hv.2
        refine e_callVv (pc := 114) (ci := 3) (st := []) (rc' := 0) (rs' := 0) (B' := bX3_insert) [vR q20] dX10_enter_114 vRX10_108 kX3_insert (by decide) rfl k46 rfl rfl (Nat.le_of_ble_eq_true rfl) ⟨Nat.le_of_ble_eq_true rfl, Nat.le_of_ble_eq_true rfl⟩ rfl rfl hv (fun w44 hv => ?_)
        refine e_aload_n (pc := 117) (i := 0) dX10_enter_117 rfl rfl ?_
        refine e_aload (pc := 118) (i := 12) dX10_enter_118 rfl ?_
        have k49 := hv.1
        replace hv := hv.2
        refine e_callVi (pc := 120) (ci := 10) (st := []) (rc' := 0) (rs' := 0) (B' := bX10_addEntry) [vR q24] dX10_enter_120 vRX10_112 kX10_addEntry (by decide) rfl k49 rfl rfl (Nat.le_of_ble_eq_true rfl) ⟨Nat.le_of_ble_eq_true rfl, Nat.le_of_ble_eq_true rfl⟩ rfl rfl hv (fun x48 w47 hv => ?_)
        exact e_ireturn (pc := 123) dX10_enter_123 rfl ⟨_, rfl, hv⟩
    · replace hv := hv.2 h11
      refine e_iconst (pc := 31) (v := (-1)) dX10_enter_31 (by decide) ?_
      exact e_ireturn (pc := 32) dX10_enter_32 rfl ⟨_, rfl, hv⟩
set_option maxRecDepth 100000 in
set_option maxHeartbeats 4000000 in
theorem oX10_enterFault (X : Cx) (A : Int32 → Wd → Prop) (a0 : Nat) (a1 : Nat) (a2 : Int32) (a3 : Int64) (a5 : Int32) (a6 : Int64) (w : Wd)
    (hv : ((¬ a1 = 0) → (((lg_cmp a6 0) = 0) → A 2 w) ∧ ((¬ (lg_cmp a6 0) = 0) → wK w a1 = 4 ∧ Ct X bX3_allParcels mX3_allParcels [vR a1] w (qJ fun x4 w3 => (((lg_cmp (a6 &&& (x4 ^^^ (-1))) 0) = 0) → wK w3 a1 = 4 ∧ (((lg_cmp (a6 &&& (wJ w3 3 2 a1)) 0) = 0) → ((a2 < 1) → A 5 w3) ∧ ((¬ a2 < 1) → ((6 < a2) → A 5 w3) ∧ ((¬ 6 < a2) → Ct X bX10_isSum mX10_isSum [vJ a3] w3 (qI fun x12 w11 => ((x12 = 0) → A 5 w11) ∧ ((¬ x12 = 0) → ((a5 < 0) → A 5 w11) ∧ ((¬ a5 < 0) → Ct X bX10_maxRate mX10_maxRate [vI a2] w11 (qI fun x16 w15 => ((a5 ≤ x16) → wK w15 a0 = 11 ∧ (((wI w15 10 4 a0) < 300) → A 0 w15) ∧ ((¬ (wI w15 10 4 a0) < 300) → A 10 w15)) ∧ ((¬ a5 ≤ x16) → A 5 w15)))))))) ∧ ((¬ (lg_cmp (a6 &&& (wJ w3 3 2 a1)) 0) = 0) → A 3 w3)) ∧ ((¬ (lg_cmp (a6 &&& (x4 ^^^ (-1))) 0) = 0) → A 2 w3)))) ∧ ((a1 = 0) → A 1 w)) :
    Ct X bX10_enterFault mX10_enterFault [vR a0, vR a1, vI a2, vJ a3, vI a5, vJ a6] w (qI A) := by
  refine Ct.of (lv := [(0, vR a0), (1, vR a1), (2, vI a2), (3, vJ a3), (5, vI a5), (6, vJ a6)]) rfl (Nat.le_of_ble_eq_true rfl) rfl ?_
  refine e_aload_n (pc := 0) (i := 1) dX10_enterFault_0 rfl rfl ?_
  refine e_ifnonnull (pc := 1) (tgt := 6) dX10_enterFault_1 (by decide) (fun h1 => ?_) (fun h1 => ?_)
  · replace hv := hv.1 h1
    refine e_lload (pc := 6) (i := 6) dX10_enterFault_6 rfl ?_
    refine e_lconst (pc := 8) (v := 0) dX10_enterFault_8 (by decide) ?_
    refine e_lcmp (pc := 9) dX10_enterFault_9 ?_
    refine e_if_eq (pc := 10) (tgt := 29) dX10_enterFault_10 (by decide) (fun h2 => ?_) (fun h2 => ?_)
    · replace hv := hv.1 h2
      refine e_iconst (pc := 29) (v := 2) dX10_enterFault_29 (by decide) ?_
      exact e_ireturn (pc := 30) dX10_enterFault_30 rfl ⟨_, rfl, hv⟩
    · replace hv := hv.2 h2
      refine e_lload (pc := 13) (i := 6) dX10_enterFault_13 rfl ?_
      refine e_aload_n (pc := 15) (i := 1) dX10_enterFault_15 rfl rfl ?_
      have k5 := hv.1
      replace hv := hv.2
      refine e_callVj (pc := 16) (ci := 3) (st := [vJ a6]) (rc' := 0) (rs' := 0) (B' := bX3_allParcels) [] dX10_enterFault_16 vRX10_116 kX3_allParcels (by decide) rfl k5 rfl rfl (Nat.le_of_ble_eq_true rfl) ⟨Nat.le_of_ble_eq_true rfl, Nat.le_of_ble_eq_true rfl⟩ rfl rfl hv (fun x4 w3 hv => ?_)
      refine e_ldc2 (pc := 19) (v := -1) dX10_enterFault_19 (tb_a1 195 (by decide +kernel) rfl) ?_
      refine e_lxor (pc := 22) dX10_enterFault_22 ?_
      refine e_land (pc := 23) dX10_enterFault_23 ?_
      refine e_lconst (pc := 24) (v := 0) dX10_enterFault_24 (by decide) ?_
      refine e_lcmp (pc := 25) dX10_enterFault_25 ?_
      refine e_if_eq (pc := 26) (tgt := 31) dX10_enterFault_26 (by decide) (fun h6 => ?_) (fun h6 => ?_)
      · replace hv := hv.1 h6
        refine e_lload (pc := 31) (i := 6) dX10_enterFault_31 rfl ?_
        refine e_aload_n (pc := 33) (i := 1) dX10_enterFault_33 rfl rfl ?_
        have k7 := hv.1
        replace hv := hv.2
        refine e_getJ (pc := 34) dX10_enterFault_34 fRX10_122 rfl k7 ?_
        refine e_land (pc := 37) dX10_enterFault_37 ?_
        refine e_lconst (pc := 38) (v := 0) dX10_enterFault_38 (by decide) ?_
        refine e_lcmp (pc := 39) dX10_enterFault_39 ?_
        refine e_if_eq (pc := 40) (tgt := 45) dX10_enterFault_40 (by decide) (fun h8 => ?_) (fun h8 => ?_)
        · replace hv := hv.1 h8
          refine e_iload_n (pc := 45) (i := 2) dX10_enterFault_45 rfl rfl ?_
          refine e_iconst (pc := 46) (v := 1) dX10_enterFault_46 (by decide) ?_
          refine e_icmp_lt (pc := 47) (tgt := 77) dX10_enterFault_47 (by decide) (fun h9 => ?_) (fun h9 => ?_)
          · replace hv := hv.1 h9
            refine e_iconst (pc := 77) (v := 5) dX10_enterFault_77 (by decide) ?_
            exact e_ireturn (pc := 78) dX10_enterFault_78 rfl ⟨_, rfl, hv⟩
          · replace hv := hv.2 h9
            refine e_iload_n (pc := 50) (i := 2) dX10_enterFault_50 rfl rfl ?_
            refine e_bipush (pc := 51) (v := 6) dX10_enterFault_51 (by decide) ?_
            refine e_icmp_gt (pc := 53) (tgt := 77) dX10_enterFault_53 (by decide) (fun h10 => ?_) (fun h10 => ?_)
            · replace hv := hv.1 h10
              refine e_iconst (pc := 77) (v := 5) dX10_enterFault_77 (by decide) ?_
              exact e_ireturn (pc := 78) dX10_enterFault_78 rfl ⟨_, rfl, hv⟩
            · replace hv := hv.2 h10
              refine e_lload_n (pc := 56) (i := 3) dX10_enterFault_56 rfl rfl ?_
              refine e_callSi (pc := 57) (st := []) (rc' := 0) (rs' := 0) (B' := bX10_isSum) [vJ a3] dX10_enterFault_57 vRX10_126 kX10_isSum rfl rfl (Nat.le_of_ble_eq_true rfl) ⟨Nat.le_of_ble_eq_true rfl, Nat.le_of_ble_eq_true rfl⟩ rfl rfl hv (fun x12 w11 hv => ?_)
              refine e_if_eq (pc := 60) (tgt := 77) dX10_enterFault_60 (by decide) (fun h13 => ?_) (fun h13 => ?_)
              · replace hv := hv.1 h13
                refine e_iconst (pc := 77) (v := 5) dX10_enterFault_77 (by decide) ?_
                exact e_ireturn (pc := 78) dX10_enterFault_78 rfl ⟨_, rfl, hv⟩
              · replace hv := hv.2 h13
                refine e_iload (pc := 63) (i := 5) dX10_enterFault_63 rfl ?_
                refine e_if_lt (pc := 65) (tgt := 77) dX10_enterFault_65 (by decide) (fun h14 => ?_) (fun h14 => ?_)
                · replace hv := hv.1 h14
                  refine e_iconst (pc := 77) (v := 5) dX10_enterFault_77 (by decide) ?_
                  exact e_ireturn (pc := 78) dX10_enterFault_78 rfl ⟨_, rfl, hv⟩
                · replace hv := hv.2 h14
                  refine e_iload (pc := 68) (i := 5) dX10_enterFault_68 rfl ?_
                  refine e_iload_n (pc := 70) (i := 2) dX10_enterFault_70 rfl rfl ?_
                  refine e_callSi (pc := 71) (st := [vI a5]) (rc' := 0) (rs' := 0) (B' := bX10_maxRate) [vI a2] dX10_enterFault_71 vRX10_130 kX10_maxRate rfl rfl (Nat.le_of_ble_eq_true rfl) ⟨Nat.le_of_ble_eq_true rfl, Nat.le_of_ble_eq_true rfl⟩ rfl rfl hv (fun x16 w15 hv => ?_)
                  refine e_icmp_le (pc := 74) (tgt := 79) dX10_enterFault_74 (by decide) (fun h17 => ?_) (fun h17 => ?_)
                  · replace hv := hv.1 h17
                    refine e_aload_n (pc := 79) (i := 0) dX10_enterFault_79 rfl rfl ?_
                    have k18 := hv.1
                    replace hv := hv.2
                    refine e_getI (pc := 80) dX10_enterFault_80 fRX10_98 rfl k18 ?_
                    refine e_sipush (pc := 83) (v := 300) dX10_enterFault_83 (by decide) ?_
                    refine e_icmp_lt (pc := 86) (tgt := 94) dX10_enterFault_86 (by decide) (fun h19 => ?_) (fun h19 => ?_)
                    · replace hv := hv.1 h19
                      refine e_iconst (pc := 94) (v := 0) dX10_enterFault_94 (by decide) ?_
                      exact e_ireturn (pc := 95) dX10_enterFault_95 rfl ⟨_, rfl, hv⟩
                    · replace hv := hv.2 h19
                      refine e_bipush (pc := 89) (v := 10) dX10_enterFault_89 (by decide) ?_
                      refine e_goto (pc := 91) (tgt := 95) dX10_enterFault_91 (by decide) ?_
                      exact e_ireturn (pc := 95) dX10_enterFault_95 rfl ⟨_, rfl, hv⟩
                  · replace hv := hv.2 h17
                    refine e_iconst (pc := 77) (v := 5) dX10_enterFault_77 (by decide) ?_
                    exact e_ireturn (pc := 78) dX10_enterFault_78 rfl ⟨_, rfl, hv⟩
        · replace hv := hv.2 h8
          refine e_iconst (pc := 43) (v := 3) dX10_enterFault_43 (by decide) ?_
          exact e_ireturn (pc := 44) dX10_enterFault_44 rfl ⟨_, rfl, hv⟩
      · replace hv := hv.2 h6
        refine e_iconst (pc := 29) (v := 2) dX10_enterFault_29 (by decide) ?_
        exact e_ireturn (pc := 30) dX10_enterFault_30 rfl ⟨_, rfl, hv⟩
  · replace hv := hv.2 h1
    refine e_iconst (pc := 4) (v := 1) dX10_enterFault_4 (by decide) ?_
    exact e_ireturn (pc := 5) dX10_enterFault_5 rfl ⟨_, rfl, hv⟩
set_option maxRecDepth 100000 in
set_option maxHeartbeats 4000000 in
theorem oX10_maxRate (X : Cx) (A : Int32 → Wd → Prop) (a0 : Int32) (w : Wd)
    (hv : ((a0 = 4) → A 36500 w) ∧ ((¬ a0 = 4) → ((¬ a0 = 6) → A 200 w) ∧ ((a0 = 6) → A 36500 w))) :
    Ct X bX10_maxRate mX10_maxRate [vI a0] w (qI A) := by
  refine Ct.of (lv := [(0, vI a0)]) rfl (Nat.le_of_ble_eq_true rfl) rfl ?_
  refine e_iload_n (pc := 0) (i := 0) dX10_maxRate_0 rfl rfl ?_
  refine e_iconst (pc := 1) (v := 4) dX10_maxRate_1 (by decide) ?_
  refine e_icmp_eq (pc := 2) (tgt := 11) dX10_maxRate_2 (by decide) (fun h1 => ?_) (fun h1 => ?_)
  · replace hv := hv.1 h1
    refine e_ldc (pc := 11) (v := 36500) dX10_maxRate_11 (tb_a1 174 (by decide +kernel) rfl) ?_
    refine e_goto (pc := 13) (tgt := 19) dX10_maxRate_13 (by decide) ?_
    exact e_ireturn (pc := 19) dX10_maxRate_19 rfl ⟨_, rfl, hv⟩
  · replace hv := hv.2 h1
    refine e_iload_n (pc := 5) (i := 0) dX10_maxRate_5 rfl rfl ?_
    refine e_bipush (pc := 6) (v := 6) dX10_maxRate_6 (by decide) ?_
    refine e_icmp_ne (pc := 8) (tgt := 16) dX10_maxRate_8 (by decide) (fun h2 => ?_) (fun h2 => ?_)
    · replace hv := hv.1 h2
      refine e_sipush (pc := 16) (v := 200) dX10_maxRate_16 (by decide) ?_
      exact e_ireturn (pc := 19) dX10_maxRate_19 rfl ⟨_, rfl, hv⟩
    · replace hv := hv.2 h2
      refine e_ldc (pc := 11) (v := 36500) dX10_maxRate_11 (tb_a1 174 (by decide +kernel) rfl) ?_
      refine e_goto (pc := 13) (tgt := 19) dX10_maxRate_13 (by decide) ?_
      exact e_ireturn (pc := 19) dX10_maxRate_19 rfl ⟨_, rfl, hv⟩
set_option maxRecDepth 100000 in
set_option maxHeartbeats 4000000 in
theorem oX10_claim (X : Cx) (A : Int32 → Wd → Prop) (a0 : Nat) (a1 : Int32) (a2 : Int32) (a3 : Int32) (w : Wd)
    (hv : wK w a0 = 11 ∧ Ct X bX10_entryAt mX10_entryAt [vR a0, vI a1] w (qR fun x2 w1 => Ct X bX10_claimFault mX10_claimFault [vR x2, vI a2, vI a3] w1 (qI fun x5 w4 => wK w4 a0 = 11 ∧ Ct X bX10_settle mX10_settle [vR a0, vI x5] w4 (qI fun x7 w6 => ((x7 = 0) → A 0 w6) ∧ ((¬ x7 = 0) → ((¬ x2 = 0) → wK w6 x2 = 3 ∧ wK w6 (wR w6 2 1 x2) = 10 ∧ wK w6 a0 = 11 ∧ Ct X bX10_newAct mX10_newAct [vR a0] w6 (qR fun x14 w13 => wK w13 (wR w6 9 3 (wR w6 2 1 x2)) = 9 ∧ Ct X bX8_claimAhead mX8_claimAhead [vR (wR w6 9 3 (wR w6 2 1 x2)), vI a2, vI a3, vR x14] w13 (qV fun w16 => A 1 w16))) ∧ ((x2 = 0) → A 0 w6)))))) :
    Ct X bX10_claim mX10_claim [vR a0, vI a1, vI a2, vI a3] w (qI A) := by
  refine Ct.of (lv := [(0, vR a0), (1, vI a1), (2, vI a2), (3, vI a3)]) rfl (Nat.le_of_ble_eq_true rfl) rfl ?_
  refine e_aload_n (pc := 0) (i := 0) dX10_claim_0 rfl rfl ?_
  refine e_iload_n (pc := 1) (i := 1) dX10_claim_1 rfl rfl ?_
  have k3 := hv.1
  replace hv := hv.2
  refine e_callVr (pc := 2) (ci := 10) (st := []) (rc' := 1) (rs' := 2) (B' := bX10_entryAt) [vI a1] dX10_claim_2 vRX10_133 kX10_entryAt (by decide) rfl k3 rfl rfl (Nat.le_of_ble_eq_true rfl) ⟨Nat.le_of_ble_eq_true rfl, Nat.le_of_ble_eq_true rfl⟩ rfl rfl hv (fun x2 w1 hv => ?_)
  refine e_astore (pc := 5) (i := 4) (lv' := [(0, vR a0), (1, vI a1), (2, vI a2), (3, vI a3), (4, vR x2)]) dX10_claim_5 (by decide) rfl ?_
  refine e_aload_n (pc := 7) (i := 0) dX10_claim_7 rfl rfl ?_
  refine e_aload (pc := 8) (i := 4) dX10_claim_8 rfl ?_
  refine e_iload_n (pc := 10) (i := 2) dX10_claim_10 rfl rfl ?_
  refine e_iload_n (pc := 11) (i := 3) dX10_claim_11 rfl rfl ?_
  refine e_callSi (pc := 12) (st := [vR a0]) (rc' := 1) (rs' := 2) (B' := bX10_claimFault) [vR x2, vI a2, vI a3] dX10_claim_12 vRX10_137 kX10_claimFault rfl rfl (Nat.le_of_ble_eq_true rfl) ⟨Nat.le_of_ble_eq_true rfl, Nat.le_of_ble_eq_true rfl⟩ rfl rfl hv (fun x5 w4 hv => ?_)
  have k8 := hv.1
  replace hv := hv.2
  refine e_callVi (pc := 15) (ci := 10) (st := []) (rc' := 1) (rs' := 2) (B' := bX10_settle) [vI x5] dX10_claim_15 vRX10_41 kX10_settle (by decide) rfl k8 rfl rfl (Nat.le_of_ble_eq_true rfl) ⟨Nat.le_of_ble_eq_true rfl, Nat.le_of_ble_eq_true rfl⟩ rfl rfl hv (fun x7 w6 hv => ?_)
  refine e_if_eq (pc := 18) (tgt := 26) dX10_claim_18 (by decide) (fun h9 => ?_) (fun h9 => ?_)
  · replace hv := hv.1 h9
    refine e_iconst (pc := 26) (v := 0) dX10_claim_26 (by decide) ?_
    exact e_zreturn (pc := 27) dX10_claim_27 rfl (Or.inl rfl) ⟨_, rfl, hv⟩
  · replace hv := hv.2 h9
    refine e_aload (pc := 21) (i := 4) dX10_claim_21 rfl ?_
    refine e_ifnonnull (pc := 23) (tgt := 28) dX10_claim_23 (by decide) (fun h10 => ?_) (fun h10 => ?_)
    · replace hv := hv.1 h10
      refine e_aload (pc := 28) (i := 4) dX10_claim_28 rfl ?_
      have k11 := hv.1
      replace hv := hv.2
      refine e_getR (pc := 30) dX10_claim_30 fRX10_141 rfl k11 ?_
      have k12 := hv.1
      replace hv := hv.2
      refine e_getR (pc := 33) dX10_claim_33 fRX10_145 rfl k12 ?_
      refine e_iload_n (pc := 36) (i := 2) dX10_claim_36 rfl rfl ?_
      refine e_iload_n (pc := 37) (i := 3) dX10_claim_37 rfl rfl ?_
      refine e_aload_n (pc := 38) (i := 0) dX10_claim_38 rfl rfl ?_
      have k15 := hv.1
      replace hv := hv.2
      refine e_callVr (pc := 39) (ci := 10) (st := [vI a3, vI a2, vR (wR w6 9 3 (wR w6 2 1 x2))]) (rc' := 0) (rs' := 0) (B' := bX10_newAct) [] dX10_claim_39 vRX10_79 kX10_newAct (by decide) rfl k15 rfl rfl (Nat.le_of_ble_eq_true rfl) ⟨Nat.le_of_ble_eq_true rfl, Nat.le_of_ble_eq_true rfl⟩ rfl rfl hv (fun x14 w13 hv => ?_)
      have k18 := hv.1
      replace hv := hv.2
      refine e_callVv (pc := 42) (ci := 8) (st := []) (rc' := 0) (rs' := 0) (B' := bX8_claimAhead) [vI a2, vI a3, vR x14] dX10_claim_42 vRX10_149 kX8_claimAhead (by decide) rfl k18 rfl rfl (Nat.le_of_ble_eq_true rfl) ⟨Nat.le_of_ble_eq_true rfl, Nat.le_of_ble_eq_true rfl⟩ rfl rfl hv (fun w16 hv => ?_)
      refine e_iconst (pc := 45) (v := 1) dX10_claim_45 (by decide) ?_
      exact e_zreturn (pc := 46) dX10_claim_46 rfl (Or.inr rfl) ⟨_, rfl, hv⟩
    · replace hv := hv.2 h10
      refine e_iconst (pc := 26) (v := 0) dX10_claim_26 (by decide) ?_
      exact e_zreturn (pc := 27) dX10_claim_27 rfl (Or.inl rfl) ⟨_, rfl, hv⟩
set_option maxRecDepth 100000 in
set_option maxHeartbeats 4000000 in
theorem oX10_claimFault (X : Cx) (A : Int32 → Wd → Prop) (a0 : Nat) (a1 : Int32) (a2 : Int32) (w : Wd)
    (hv : ((¬ a0 = 0) → wK w a0 = 3 ∧ ((¬ (wR w 2 2 a0) = 0) → A 4 w) ∧ (((wR w 2 2 a0) = 0) → wK w (wR w 2 1 a0) = 10 ∧ wK w (wR w 9 3 (wR w 2 1 a0)) = 9 ∧ (((wI w 8 0 (wR w 9 3 (wR w 2 1 a0))) = 5) → ((a1 < 0) → A 5 w) ∧ ((¬ a1 < 0) → ((36500 < a1) → A 5 w) ∧ ((¬ 36500 < a1) → ((a2 < 1) → A 5 w) ∧ ((¬ a2 < 1) → ((a2 ≤ 30) → (((wR w 8 5 (wR w 9 3 (wR w 2 1 a0))) = 0) → A 0 w) ∧ ((¬ (wR w 8 5 (wR w 9 3 (wR w 2 1 a0))) = 0) → A 8 w)) ∧ ((¬ a2 ≤ 30) → A 5 w))))) ∧ ((¬ (wI w 8 0 (wR w 9 3 (wR w 2 1 a0))) = 5) → A 4 w))) ∧ ((a0 = 0) → A 1 w)) :
    Ct X bX10_claimFault mX10_claimFault [vR a0, vI a1, vI a2] w (qI A) := by
  refine Ct.of (lv := [(0, vR a0), (1, vI a1), (2, vI a2)]) rfl (Nat.le_of_ble_eq_true rfl) rfl ?_
  refine e_aload_n (pc := 0) (i := 0) dX10_claimFault_0 rfl rfl ?_
  refine e_ifnonnull (pc := 1) (tgt := 6) dX10_claimFault_1 (by decide) (fun h1 => ?_) (fun h1 => ?_)
  · replace hv := hv.1 h1
    refine e_aload_n (pc := 6) (i := 0) dX10_claimFault_6 rfl rfl ?_
    have k2 := hv.1
    replace hv := hv.2
    refine e_getR (pc := 7) dX10_claimFault_7 fRX10_153 rfl k2 ?_
    refine e_ifnonnull (pc := 10) (tgt := 27) dX10_claimFault_10 (by decide) (fun h3 => ?_) (fun h3 => ?_)
    · replace hv := hv.1 h3
      refine e_iconst (pc := 27) (v := 4) dX10_claimFault_27 (by decide) ?_
      exact e_ireturn (pc := 28) dX10_claimFault_28 rfl ⟨_, rfl, hv⟩
    · replace hv := hv.2 h3
      refine e_aload_n (pc := 13) (i := 0) dX10_claimFault_13 rfl rfl ?_
      refine e_getR (pc := 14) dX10_claimFault_14 fRX10_141 rfl k2 ?_
      have k4 := hv.1
      replace hv := hv.2
      refine e_getR (pc := 17) dX10_claimFault_17 fRX10_145 rfl k4 ?_
      have k5 := hv.1
      replace hv := hv.2
      refine e_getI (pc := 20) dX10_claimFault_20 fRX10_157 rfl k5 ?_
      refine e_iconst (pc := 23) (v := 5) dX10_claimFault_23 (by decide) ?_
      refine e_icmp_eq (pc := 24) (tgt := 29) dX10_claimFault_24 (by decide) (fun h6 => ?_) (fun h6 => ?_)
      · replace hv := hv.1 h6
        refine e_iload_n (pc := 29) (i := 1) dX10_claimFault_29 rfl rfl ?_
        refine e_if_lt (pc := 30) (tgt := 50) dX10_claimFault_30 (by decide) (fun h7 => ?_) (fun h7 => ?_)
        · replace hv := hv.1 h7
          refine e_iconst (pc := 50) (v := 5) dX10_claimFault_50 (by decide) ?_
          exact e_ireturn (pc := 51) dX10_claimFault_51 rfl ⟨_, rfl, hv⟩
        · replace hv := hv.2 h7
          refine e_iload_n (pc := 33) (i := 1) dX10_claimFault_33 rfl rfl ?_
          refine e_ldc (pc := 34) (v := 36500) dX10_claimFault_34 (tb_a1 174 (by decide +kernel) rfl) ?_
          refine e_icmp_gt (pc := 36) (tgt := 50) dX10_claimFault_36 (by decide) (fun h8 => ?_) (fun h8 => ?_)
          · replace hv := hv.1 h8
            refine e_iconst (pc := 50) (v := 5) dX10_claimFault_50 (by decide) ?_
            exact e_ireturn (pc := 51) dX10_claimFault_51 rfl ⟨_, rfl, hv⟩
          · replace hv := hv.2 h8
            refine e_iload_n (pc := 39) (i := 2) dX10_claimFault_39 rfl rfl ?_
            refine e_iconst (pc := 40) (v := 1) dX10_claimFault_40 (by decide) ?_
            refine e_icmp_lt (pc := 41) (tgt := 50) dX10_claimFault_41 (by decide) (fun h9 => ?_) (fun h9 => ?_)
            · replace hv := hv.1 h9
              refine e_iconst (pc := 50) (v := 5) dX10_claimFault_50 (by decide) ?_
              exact e_ireturn (pc := 51) dX10_claimFault_51 rfl ⟨_, rfl, hv⟩
            · replace hv := hv.2 h9
              refine e_iload_n (pc := 44) (i := 2) dX10_claimFault_44 rfl rfl ?_
              refine e_bipush (pc := 45) (v := 30) dX10_claimFault_45 (by decide) ?_
              refine e_icmp_le (pc := 47) (tgt := 52) dX10_claimFault_47 (by decide) (fun h10 => ?_) (fun h10 => ?_)
              · replace hv := hv.1 h10
                refine e_aload_n (pc := 52) (i := 0) dX10_claimFault_52 rfl rfl ?_
                refine e_getR (pc := 53) dX10_claimFault_53 fRX10_141 rfl k2 ?_
                refine e_getR (pc := 56) dX10_claimFault_56 fRX10_145 rfl k4 ?_
                refine e_getR (pc := 59) dX10_claimFault_59 fRX10_160 rfl k5 ?_
                refine e_ifnull (pc := 62) (tgt := 70) dX10_claimFault_62 (by decide) (fun h11 => ?_) (fun h11 => ?_)
                · replace hv := hv.1 h11
                  refine e_iconst (pc := 70) (v := 0) dX10_claimFault_70 (by decide) ?_
                  exact e_ireturn (pc := 71) dX10_claimFault_71 rfl ⟨_, rfl, hv⟩
                · replace hv := hv.2 h11
                  refine e_bipush (pc := 65) (v := 8) dX10_claimFault_65 (by decide) ?_
                  refine e_goto (pc := 67) (tgt := 71) dX10_claimFault_67 (by decide) ?_
                  exact e_ireturn (pc := 71) dX10_claimFault_71 rfl ⟨_, rfl, hv⟩
              · replace hv := hv.2 h10
                refine e_iconst (pc := 50) (v := 5) dX10_claimFault_50 (by decide) ?_
                exact e_ireturn (pc := 51) dX10_claimFault_51 rfl ⟨_, rfl, hv⟩
      · replace hv := hv.2 h6
        refine e_iconst (pc := 27) (v := 4) dX10_claimFault_27 (by decide) ?_
        exact e_ireturn (pc := 28) dX10_claimFault_28 rfl ⟨_, rfl, hv⟩
  · replace hv := hv.2 h1
    refine e_iconst (pc := 4) (v := 1) dX10_claimFault_4 (by decide) ?_
    exact e_ireturn (pc := 5) dX10_claimFault_5 rfl ⟨_, rfl, hv⟩
set_option maxRecDepth 100000 in
set_option maxHeartbeats 4000000 in
theorem oX10_owe (X : Cx) (A : Int32 → Wd → Prop) (a0 : Nat) (a1 : Int32) (a2 : Int64) (w : Wd)
    (hv : wK w a0 = 11 ∧ Ct X bX10_entryAt mX10_entryAt [vR a0, vI a1] w (qR fun x2 w1 => wK w1 a0 = 11 ∧ Ct X bX10_oweFault mX10_oweFault [vR a0, vR x2, vJ a2] w1 (qI fun x5 w4 => wK w4 a0 = 11 ∧ Ct X bX10_settle mX10_settle [vR a0, vI x5] w4 (qI fun x8 w7 => ((x8 = 0) → A 0 w7) ∧ ((¬ x8 = 0) → ((¬ x2 = 0) → wK w7 x2 = 3 ∧ ∀ w13 : Wd, w13 = sJ w7 2 4 x2 a2 → A 1 w13) ∧ ((x2 = 0) → A 0 w7)))))) :
    Ct X bX10_owe mX10_owe [vR a0, vI a1, vJ a2] w (qI A) := by
  refine Ct.of (lv := [(0, vR a0), (1, vI a1), (2, vJ a2)]) rfl (Nat.le_of_ble_eq_true rfl) rfl ?_
  refine e_aload_n (pc := 0) (i := 0) dX10_owe_0 rfl rfl ?_
  refine e_iload_n (pc := 1) (i := 1) dX10_owe_1 rfl rfl ?_
  have k3 := hv.1
  replace hv := hv.2
  refine e_callVr (pc := 2) (ci := 10) (st := []) (rc' := 0) (rs' := 0) (B' := bX10_entryAt) [vI a1] dX10_owe_2 vRX10_133 kX10_entryAt (by decide) rfl k3 rfl rfl (Nat.le_of_ble_eq_true rfl) ⟨Nat.le_of_ble_eq_true rfl, Nat.le_of_ble_eq_true rfl⟩ rfl rfl hv (fun x2 w1 hv => ?_)
  refine e_astore (pc := 5) (i := 4) (lv' := [(0, vR a0), (1, vI a1), (2, vJ a2), (4, vR x2)]) dX10_owe_5 (by decide) rfl ?_
  refine e_aload_n (pc := 7) (i := 0) dX10_owe_7 rfl rfl ?_
  refine e_aload_n (pc := 8) (i := 0) dX10_owe_8 rfl rfl ?_
  refine e_aload (pc := 9) (i := 4) dX10_owe_9 rfl ?_
  refine e_lload_n (pc := 11) (i := 2) dX10_owe_11 rfl rfl ?_
  have k6 := hv.1
  replace hv := hv.2
  refine e_callVi (pc := 12) (ci := 10) (st := [vR a0]) (rc' := 0) (rs' := 0) (B' := bX10_oweFault) [vR x2, vJ a2] dX10_owe_12 vRX10_164 kX10_oweFault (by decide) rfl k6 rfl rfl (Nat.le_of_ble_eq_true rfl) ⟨Nat.le_of_ble_eq_true rfl, Nat.le_of_ble_eq_true rfl⟩ rfl rfl hv (fun x5 w4 hv => ?_)
  have k9 := hv.1
  replace hv := hv.2
  refine e_callVi (pc := 15) (ci := 10) (st := []) (rc' := 0) (rs' := 0) (B' := bX10_settle) [vI x5] dX10_owe_15 vRX10_41 kX10_settle (by decide) rfl k9 rfl rfl (Nat.le_of_ble_eq_true rfl) ⟨Nat.le_of_ble_eq_true rfl, Nat.le_of_ble_eq_true rfl⟩ rfl rfl hv (fun x8 w7 hv => ?_)
  refine e_if_eq (pc := 18) (tgt := 26) dX10_owe_18 (by decide) (fun h10 => ?_) (fun h10 => ?_)
  · replace hv := hv.1 h10
    refine e_iconst (pc := 26) (v := 0) dX10_owe_26 (by decide) ?_
    exact e_zreturn (pc := 27) dX10_owe_27 rfl (Or.inl rfl) ⟨_, rfl, hv⟩
  · replace hv := hv.2 h10
    refine e_aload (pc := 21) (i := 4) dX10_owe_21 rfl ?_
    refine e_ifnonnull (pc := 23) (tgt := 28) dX10_owe_23 (by decide) (fun h11 => ?_) (fun h11 => ?_)
    · replace hv := hv.1 h11
      refine e_aload (pc := 28) (i := 4) dX10_owe_28 rfl ?_
      refine e_lload_n (pc := 30) (i := 2) dX10_owe_30 rfl rfl ?_
      have k12 := hv.1
      replace hv := hv.2
      obtain ⟨w13, hw13⟩ : ∃ w13 : Wd, w13 = sJ w7 2 4 x2 a2 := ⟨_, rfl⟩
      replace hv := hv w13 hw13
      refine e_putJ (pc := 31) dX10_owe_31 fRX10_168 (Or.inl rfl) rfl k12 ?_
      rw [← hw13]
      refine e_iconst (pc := 34) (v := 1) dX10_owe_34 (by decide) ?_
      exact e_zreturn (pc := 35) dX10_owe_35 rfl (Or.inr rfl) ⟨_, rfl, hv⟩
    · replace hv := hv.2 h11
      refine e_iconst (pc := 26) (v := 0) dX10_owe_26 (by decide) ?_
      exact e_zreturn (pc := 27) dX10_owe_27 rfl (Or.inl rfl) ⟨_, rfl, hv⟩
set_option maxRecDepth 100000 in
set_option maxHeartbeats 4000000 in
theorem oX10_oweFault (X : Cx) (A : Int32 → Wd → Prop) (a0 : Nat) (a1 : Nat) (a2 : Int64) (w : Wd)
    (hv : ((¬ a1 = 0) → wK w a1 = 3 ∧ wK w (wR w 2 1 a1) = 10 ∧ wK w (wR w 9 3 (wR w 2 1 a1)) = 9 ∧ (((wI w 8 0 (wR w 9 3 (wR w 2 1 a1))) = 3) → (((lg_cmp a2 0) < 0) → A 5 w) ∧ ((¬ (lg_cmp a2 0) < 0) → (((lg_cmp a2 (wJ w 8 2 (wR w 9 3 (wR w 2 1 a1)))) ≤ 0) → wK w a0 = 11 ∧ Ct X bX9_livesAt mX9_livesAt [vR (wR w 2 1 a1), vR (wR w 10 8 a0)] w (qI fun x10 w9 => ((¬ x10 = 0) → wK w9 a1 = 3 ∧ wK w9 (wR w9 2 1 a1) = 10 ∧ Ct X bX9_owedBelow mX9_owedBelow [vR (wR w9 2 1 a1), vR 0] w9 (qJ fun x14 w13 => wK w13 a1 = 3 ∧ wK w13 (wR w 9 3 (wR w 2 1 a1)) = 9 ∧ ((0 < (lg_cmp ((x14 - (wJ w13 2 4 a1)) + a2) (wJ w13 8 2 (wR w 9 3 (wR w 2 1 a1))))) → ((¬ (wI w13 2 5 a1) = 0) → A 8 w13) ∧ (((wI w13 2 5 a1) = 0) → ((¬ (0 : Int32) = 0) → A 0 w13) ∧ (((0 : Int32) = 0) → A 8 w13))) ∧ ((¬ 0 < (lg_cmp ((x14 - (wJ w13 2 4 a1)) + a2) (wJ w13 8 2 (wR w 9 3 (wR w 2 1 a1))))) → ((¬ (wI w13 2 5 a1) = 0) → A 8 w13) ∧ (((wI w13 2 5 a1) = 0) → ((¬ (1 : Int32) = 0) → A 0 w13) ∧ (((1 : Int32) = 0) → A 8 w13))))) ∧ ((x10 = 0) → A 6 w9))) ∧ ((¬ (lg_cmp a2 (wJ w 8 2 (wR w 9 3 (wR w 2 1 a1)))) ≤ 0) → A 5 w))) ∧ ((¬ (wI w 8 0 (wR w 9 3 (wR w 2 1 a1))) = 3) → A 4 w)) ∧ ((a1 = 0) → A 1 w)) :
    Ct X bX10_oweFault mX10_oweFault [vR a0, vR a1, vJ a2] w (qI A) := by
  refine Ct.of (lv := [(0, vR a0), (1, vR a1), (2, vJ a2)]) rfl (Nat.le_of_ble_eq_true rfl) rfl ?_
  refine e_aload_n (pc := 0) (i := 1) dX10_oweFault_0 rfl rfl ?_
  refine e_ifnonnull (pc := 1) (tgt := 6) dX10_oweFault_1 (by decide) (fun h1 => ?_) (fun h1 => ?_)
  · replace hv := hv.1 h1
    refine e_aload_n (pc := 6) (i := 1) dX10_oweFault_6 rfl rfl ?_
    have k2 := hv.1
    replace hv := hv.2
    refine e_getR (pc := 7) dX10_oweFault_7 fRX10_141 rfl k2 ?_
    have k3 := hv.1
    replace hv := hv.2
    refine e_getR (pc := 10) dX10_oweFault_10 fRX10_145 rfl k3 ?_
    refine e_astore (pc := 13) (i := 4) (lv' := [(0, vR a0), (1, vR a1), (2, vJ a2), (4, vR (wR w 9 3 (wR w 2 1 a1)))]) dX10_oweFault_13 (by decide) rfl ?_
    refine e_aload (pc := 15) (i := 4) dX10_oweFault_15 rfl ?_
    have k4 := hv.1
    replace hv := hv.2
    refine e_getI (pc := 17) dX10_oweFault_17 fRX10_157 rfl k4 ?_
    refine e_iconst (pc := 20) (v := 3) dX10_oweFault_20 (by decide) ?_
    refine e_icmp_eq (pc := 21) (tgt := 26) dX10_oweFault_21 (by decide) (fun h5 => ?_) (fun h5 => ?_)
    · replace hv := hv.1 h5
      refine e_lload_n (pc := 26) (i := 2) dX10_oweFault_26 rfl rfl ?_
      refine e_lconst (pc := 27) (v := 0) dX10_oweFault_27 (by decide) ?_
      refine e_lcmp (pc := 28) dX10_oweFault_28 ?_
      refine e_if_lt (pc := 29) (tgt := 42) dX10_oweFault_29 (by decide) (fun h6 => ?_) (fun h6 => ?_)
      · replace hv := hv.1 h6
        refine e_iconst (pc := 42) (v := 5) dX10_oweFault_42 (by decide) ?_
        exact e_ireturn (pc := 43) dX10_oweFault_43 rfl ⟨_, rfl, hv⟩
      · replace hv := hv.2 h6
        refine e_lload_n (pc := 32) (i := 2) dX10_oweFault_32 rfl rfl ?_
        refine e_aload (pc := 33) (i := 4) dX10_oweFault_33 rfl ?_
        refine e_getJ (pc := 35) dX10_oweFault_35 fRX10_171 rfl k4 ?_
        refine e_lcmp (pc := 38) dX10_oweFault_38 ?_
        refine e_if_le (pc := 39) (tgt := 44) dX10_oweFault_39 (by decide) (fun h7 => ?_) (fun h7 => ?_)
        · replace hv := hv.1 h7
          refine e_aload_n (pc := 44) (i := 1) dX10_oweFault_44 rfl rfl ?_
          refine e_getR (pc := 45) dX10_oweFault_45 fRX10_141 rfl k2 ?_
          refine e_aload_n (pc := 48) (i := 0) dX10_oweFault_48 rfl rfl ?_
          have k8 := hv.1
          replace hv := hv.2
          refine e_getR (pc := 49) dX10_oweFault_49 fRX10_33 rfl k8 ?_
          refine e_callVi (pc := 52) (ci := 9) (st := []) (rc' := 0) (rs' := 0) (B' := bX9_livesAt) [vR (wR w 10 8 a0)] dX10_oweFault_52 vRX10_174 kX9_livesAt (by decide) rfl k3 rfl rfl (Nat.le_of_ble_eq_true rfl) ⟨Nat.le_of_ble_eq_true rfl, Nat.le_of_ble_eq_true rfl⟩ rfl rfl hv (fun x10 w9 hv => ?_)
          refine e_if_ne (pc := 55) (tgt := 61) dX10_oweFault_55 (by decide) (fun h11 => ?_) (fun h11 => ?_)
          · replace hv := hv.1 h11
            refine e_aload_n (pc := 61) (i := 1) dX10_oweFault_61 rfl rfl ?_
            have k12 := hv.1
            replace hv := hv.2
            refine e_getR (pc := 62) dX10_oweFault_62 fRX10_141 rfl k12 ?_
            refine e_null (pc := 65) dX10_oweFault_65 ?_
            have k15 := hv.1
            replace hv := hv.2
            refine e_callVj (pc := 66) (ci := 9) (st := []) (rc' := 0) (rs' := 0) (B' := bX9_owedBelow) [vR 0] dX10_oweFault_66 vRX10_178 kX9_owedBelow (by decide) rfl k15 rfl rfl (Nat.le_of_ble_eq_true rfl) ⟨Nat.le_of_ble_eq_true rfl, Nat.le_of_ble_eq_true rfl⟩ rfl rfl hv (fun x14 w13 hv => ?_)
            refine e_aload_n (pc := 69) (i := 1) dX10_oweFault_69 rfl rfl ?_
            have k16 := hv.1
            replace hv := hv.2
            refine e_getJ (pc := 70) dX10_oweFault_70 fRX10_168 rfl k16 ?_
            refine e_lsub (pc := 73) dX10_oweFault_73 ?_
            refine e_lload_n (pc := 74) (i := 2) dX10_oweFault_74 rfl rfl ?_
            refine e_ladd (pc := 75) dX10_oweFault_75 ?_
            refine e_aload (pc := 76) (i := 4) dX10_oweFault_76 rfl ?_
            have k17 := hv.1
            replace hv := hv.2
            refine e_getJ (pc := 78) dX10_oweFault_78 fRX10_171 rfl k17 ?_
            refine e_lcmp (pc := 81) dX10_oweFault_81 ?_
            refine e_if_gt (pc := 82) (tgt := 89) dX10_oweFault_82 (by decide) (fun h18 => ?_) (fun h18 => ?_)
            · replace hv := hv.1 h18
              refine e_iconst (pc := 89) (v := 0) dX10_oweFault_89 (by decide) ?_
              refine e_istore (pc := 90) (i := 5) (lv' := [(0, vR a0), (1, vR a1), (2, vJ a2), (4, vR (wR w 9 3 (wR w 2 1 a1))), (5, vI 0)]) dX10_oweFault_90 (by decide) rfl ?_
              refine e_aload_n (pc := 92) (i := 1) dX10_oweFault_92 rfl rfl ?_
              refine e_getI (pc := 93) dX10_oweFault_93 fRX10_182 rfl k16 ?_
              refine e_if_ne (pc := 96) (tgt := 104) dX10_oweFault_96 (by decide) (fun h19 => ?_) (fun h19 => ?_)
              · replace hv := hv.1 h19
                refine e_bipush (pc := 104) (v := 8) dX10_oweFault_104 (by decide) ?_
                refine e_goto (pc := 106) (tgt := 110) dX10_oweFault_106 (by decide) ?_
                exact e_ireturn (pc := 110) dX10_oweFault_110 rfl ⟨_, rfl, hv⟩
              · replace hv := hv.2 h19
                refine e_iload (pc := 99) (i := 5) dX10_oweFault_99 rfl ?_
                refine e_if_ne (pc := 101) (tgt := 109) dX10_oweFault_101 (by decide) (fun h20 => ?_) (fun h20 => ?_)
                · replace hv := hv.1 h20
                  refine e_iconst (pc := 109) (v := 0) dX10_oweFault_109 (by decide) ?_
                  exact e_ireturn (pc := 110) dX10_oweFault_110 rfl ⟨_, rfl, hv⟩
                · replace hv := hv.2 h20
                  refine e_bipush (pc := 104) (v := 8) dX10_oweFault_104 (by decide) ?_
                  refine e_goto (pc := 106) (tgt := 110) dX10_oweFault_106 (by decide) ?_
                  exact e_ireturn (pc := 110) dX10_oweFault_110 rfl ⟨_, rfl, hv⟩
            · replace hv := hv.2 h18
              refine e_iconst (pc := 85) (v := 1) dX10_oweFault_85 (by decide) ?_
              refine e_goto (pc := 86) (tgt := 90) dX10_oweFault_86 (by decide) ?_
              refine e_istore (pc := 90) (i := 5) (lv' := [(0, vR a0), (1, vR a1), (2, vJ a2), (4, vR (wR w 9 3 (wR w 2 1 a1))), (5, vI 1)]) dX10_oweFault_90 (by decide) rfl ?_
              refine e_aload_n (pc := 92) (i := 1) dX10_oweFault_92 rfl rfl ?_
              refine e_getI (pc := 93) dX10_oweFault_93 fRX10_182 rfl k16 ?_
              refine e_if_ne (pc := 96) (tgt := 104) dX10_oweFault_96 (by decide) (fun h21 => ?_) (fun h21 => ?_)
              · replace hv := hv.1 h21
                refine e_bipush (pc := 104) (v := 8) dX10_oweFault_104 (by decide) ?_
                refine e_goto (pc := 106) (tgt := 110) dX10_oweFault_106 (by decide) ?_
                exact e_ireturn (pc := 110) dX10_oweFault_110 rfl ⟨_, rfl, hv⟩
              · replace hv := hv.2 h21
                refine e_iload (pc := 99) (i := 5) dX10_oweFault_99 rfl ?_
                refine e_if_ne (pc := 101) (tgt := 109) dX10_oweFault_101 (by decide) (fun h22 => ?_) (fun h22 => ?_)
                · replace hv := hv.1 h22
                  refine e_iconst (pc := 109) (v := 0) dX10_oweFault_109 (by decide) ?_
                  exact e_ireturn (pc := 110) dX10_oweFault_110 rfl ⟨_, rfl, hv⟩
                · replace hv := hv.2 h22
                  refine e_bipush (pc := 104) (v := 8) dX10_oweFault_104 (by decide) ?_
                  refine e_goto (pc := 106) (tgt := 110) dX10_oweFault_106 (by decide) ?_
                  exact e_ireturn (pc := 110) dX10_oweFault_110 rfl ⟨_, rfl, hv⟩
          · replace hv := hv.2 h11
            refine e_bipush (pc := 58) (v := 6) dX10_oweFault_58 (by decide) ?_
            exact e_ireturn (pc := 60) dX10_oweFault_60 rfl ⟨_, rfl, hv⟩
        · replace hv := hv.2 h7
          refine e_iconst (pc := 42) (v := 5) dX10_oweFault_42 (by decide) ?_
          exact e_ireturn (pc := 43) dX10_oweFault_43 rfl ⟨_, rfl, hv⟩
    · replace hv := hv.2 h5
      refine e_iconst (pc := 24) (v := 4) dX10_oweFault_24 (by decide) ?_
      exact e_ireturn (pc := 25) dX10_oweFault_25 rfl ⟨_, rfl, hv⟩
  · replace hv := hv.2 h1
    refine e_iconst (pc := 4) (v := 1) dX10_oweFault_4 (by decide) ?_
    exact e_ireturn (pc := 5) dX10_oweFault_5 rfl ⟨_, rfl, hv⟩
set_option maxRecDepth 100000 in
set_option maxHeartbeats 4000000 in
theorem oX10_pay (X : Cx) (A : Int64 → Wd → Prop) (a0 : Nat) (a1 : Int32) (a2 : Int64) (w : Wd)
    (hv : wK w a0 = 11 ∧ Ct X bX10_entryAt mX10_entryAt [vR a0, vI a1] w (qR fun x2 w1 => wK w1 a0 = 11 ∧ Ct X bX10_payFault mX10_payFault [vR a0, vR x2, vJ a2] w1 (qI fun x5 w4 => wK w4 a0 = 11 ∧ Ct X bX10_settle mX10_settle [vR a0, vI x5] w4 (qI fun x8 w7 => ((x8 = 0) → A (-1) w7) ∧ ((¬ x8 = 0) → ((¬ x2 = 0) → wK w7 x2 = 3 ∧ ∀ w13 : Wd, w13 = sJ w7 2 4 x2 ((wJ w7 2 4 x2) - a2) → A (wJ w13 2 4 x2) w13) ∧ ((x2 = 0) → A (-1) w7)))))) :
    Ct X bX10_pay mX10_pay [vR a0, vI a1, vJ a2] w (qJ A) := by
  refine Ct.of (lv := [(0, vR a0), (1, vI a1), (2, vJ a2)]) rfl (Nat.le_of_ble_eq_true rfl) rfl ?_
  refine e_aload_n (pc := 0) (i := 0) dX10_pay_0 rfl rfl ?_
  refine e_iload_n (pc := 1) (i := 1) dX10_pay_1 rfl rfl ?_
  have k3 := hv.1
  replace hv := hv.2
  refine e_callVr (pc := 2) (ci := 10) (st := []) (rc' := 0) (rs' := 0) (B' := bX10_entryAt) [vI a1] dX10_pay_2 vRX10_133 kX10_entryAt (by decide) rfl k3 rfl rfl (Nat.le_of_ble_eq_true rfl) ⟨Nat.le_of_ble_eq_true rfl, Nat.le_of_ble_eq_true rfl⟩ rfl rfl hv (fun x2 w1 hv => ?_)
  refine e_astore (pc := 5) (i := 4) (lv' := [(0, vR a0), (1, vI a1), (2, vJ a2), (4, vR x2)]) dX10_pay_5 (by decide) rfl ?_
  refine e_aload_n (pc := 7) (i := 0) dX10_pay_7 rfl rfl ?_
  refine e_aload_n (pc := 8) (i := 0) dX10_pay_8 rfl rfl ?_
  refine e_aload (pc := 9) (i := 4) dX10_pay_9 rfl ?_
  refine e_lload_n (pc := 11) (i := 2) dX10_pay_11 rfl rfl ?_
  have k6 := hv.1
  replace hv := hv.2
  refine e_callVi (pc := 12) (ci := 10) (st := [vR a0]) (rc' := 0) (rs' := 0) (B' := bX10_payFault) [vR x2, vJ a2] dX10_pay_12 vRX10_186 kX10_payFault (by decide) rfl k6 rfl rfl (Nat.le_of_ble_eq_true rfl) ⟨Nat.le_of_ble_eq_true rfl, Nat.le_of_ble_eq_true rfl⟩ rfl rfl hv (fun x5 w4 hv => ?_)
  have k9 := hv.1
  replace hv := hv.2
  refine e_callVi (pc := 15) (ci := 10) (st := []) (rc' := 0) (rs' := 0) (B' := bX10_settle) [vI x5] dX10_pay_15 vRX10_41 kX10_settle (by decide) rfl k9 rfl rfl (Nat.le_of_ble_eq_true rfl) ⟨Nat.le_of_ble_eq_true rfl, Nat.le_of_ble_eq_true rfl⟩ rfl rfl hv (fun x8 w7 hv => ?_)
  refine e_if_eq (pc := 18) (tgt := 26) dX10_pay_18 (by decide) (fun h10 => ?_) (fun h10 => ?_)
  · replace hv := hv.1 h10
    refine e_ldc2 (pc := 26) (v := -1) dX10_pay_26 (tb_a1 195 (by decide +kernel) rfl) ?_
    exact e_lreturn (pc := 29) dX10_pay_29 rfl ⟨_, rfl, hv⟩
  · replace hv := hv.2 h10
    refine e_aload (pc := 21) (i := 4) dX10_pay_21 rfl ?_
    refine e_ifnonnull (pc := 23) (tgt := 30) dX10_pay_23 (by decide) (fun h11 => ?_) (fun h11 => ?_)
    · replace hv := hv.1 h11
      refine e_aload (pc := 30) (i := 4) dX10_pay_30 rfl ?_
      refine e_dup (pc := 32) dX10_pay_32 rfl ?_
      have k12 := hv.1
      replace hv := hv.2
      refine e_getJ (pc := 33) dX10_pay_33 fRX10_168 rfl k12 ?_
      refine e_lload_n (pc := 36) (i := 2) dX10_pay_36 rfl rfl ?_
      refine e_lsub (pc := 37) dX10_pay_37 ?_
      obtain ⟨w13, hw13⟩ : ∃ w13 : Wd, w13 = sJ w7 2 4 x2 ((wJ w7 2 4 x2) - a2) := ⟨_, rfl⟩
      replace hv := hv w13 hw13
      refine e_putJ (pc := 38) dX10_pay_38 fRX10_168 (Or.inl rfl) rfl k12 ?_
      rw [← hw13]
      refine e_aload (pc := 41) (i := 4) dX10_pay_41 rfl ?_
      have k14 : wK w13 x2 = 3 := (by rw [hw13]; exact k12)
      refine e_getJ (pc := 43) dX10_pay_43 fRX10_168 rfl k14 ?_
      exact e_lreturn (pc := 46) dX10_pay_46 rfl ⟨_, rfl, hv⟩
    · replace hv := hv.2 h11
      refine e_ldc2 (pc := 26) (v := -1) dX10_pay_26 (tb_a1 195 (by decide +kernel) rfl) ?_
      exact e_lreturn (pc := 29) dX10_pay_29 rfl ⟨_, rfl, hv⟩
set_option maxRecDepth 100000 in
set_option maxHeartbeats 4000000 in
theorem oX10_payFault (X : Cx) (A : Int32 → Wd → Prop) (a0 : Nat) (a1 : Nat) (a2 : Int64) (w : Wd)
    (hv : ((¬ a1 = 0) → wK w a1 = 3 ∧ wK w (wR w 2 1 a1) = 10 ∧ wK w (wR w 9 3 (wR w 2 1 a1)) = 9 ∧ Ct X bX8_isDivisible mX8_isDivisible [vR (wR w 9 3 (wR w 2 1 a1))] w (qI fun x5 w4 => ((¬ x5 = 0) → (((lg_cmp a2 0) < 0) → A 5 w4) ∧ ((¬ (lg_cmp a2 0) < 0) → wK w4 a1 = 3 ∧ wK w4 (wR w4 2 1 a1) = 10 ∧ Ct X bX9_owedBelow mX9_owedBelow [vR (wR w4 2 1 a1), vR a1] w4 (qJ fun x11 w10 => (((lg_cmp a2 x11) ≤ 0) → wK w10 a1 = 3 ∧ wK w10 a0 = 11 ∧ wK w10 (wR w10 2 1 a1) = 10 ∧ Ct X bX9_livesAt mX9_livesAt [vR (wR w10 2 1 a1), vR (wR w10 10 8 a0)] w10 (qI fun x17 w16 => ((¬ x17 = 0) → wK w16 a1 = 3 ∧ (((wI w16 2 5 a1) = 0) → A 0 w16) ∧ ((¬ (wI w16 2 5 a1) = 0) → A 8 w16)) ∧ ((x17 = 0) → A 6 w16))) ∧ ((¬ (lg_cmp a2 x11) ≤ 0) → A 5 w10)))) ∧ ((x5 = 0) → A 4 w4))) ∧ ((a1 = 0) → A 1 w)) :
    Ct X bX10_payFault mX10_payFault [vR a0, vR a1, vJ a2] w (qI A) := by
  refine Ct.of (lv := [(0, vR a0), (1, vR a1), (2, vJ a2)]) rfl (Nat.le_of_ble_eq_true rfl) rfl ?_
  refine e_aload_n (pc := 0) (i := 1) dX10_payFault_0 rfl rfl ?_
  refine e_ifnonnull (pc := 1) (tgt := 6) dX10_payFault_1 (by decide) (fun h1 => ?_) (fun h1 => ?_)
  · replace hv := hv.1 h1
    refine e_aload_n (pc := 6) (i := 1) dX10_payFault_6 rfl rfl ?_
    have k2 := hv.1
    replace hv := hv.2
    refine e_getR (pc := 7) dX10_payFault_7 fRX10_141 rfl k2 ?_
    have k3 := hv.1
    replace hv := hv.2
    refine e_getR (pc := 10) dX10_payFault_10 fRX10_145 rfl k3 ?_
    have k6 := hv.1
    replace hv := hv.2
    refine e_callVi (pc := 13) (ci := 8) (st := []) (rc' := 0) (rs' := 0) (B' := bX8_isDivisible) [] dX10_payFault_13 vRX10_189 kX8_isDivisible (by decide) rfl k6 rfl rfl (Nat.le_of_ble_eq_true rfl) ⟨Nat.le_of_ble_eq_true rfl, Nat.le_of_ble_eq_true rfl⟩ rfl rfl hv (fun x5 w4 hv => ?_)
    refine e_if_ne (pc := 16) (tgt := 21) dX10_payFault_16 (by decide) (fun h7 => ?_) (fun h7 => ?_)
    · replace hv := hv.1 h7
      refine e_lload_n (pc := 21) (i := 2) dX10_payFault_21 rfl rfl ?_
      refine e_lconst (pc := 22) (v := 0) dX10_payFault_22 (by decide) ?_
      refine e_lcmp (pc := 23) dX10_payFault_23 ?_
      refine e_if_lt (pc := 24) (tgt := 40) dX10_payFault_24 (by decide) (fun h8 => ?_) (fun h8 => ?_)
      · replace hv := hv.1 h8
        refine e_iconst (pc := 40) (v := 5) dX10_payFault_40 (by decide) ?_
        exact e_ireturn (pc := 41) dX10_payFault_41 rfl ⟨_, rfl, hv⟩
      · replace hv := hv.2 h8
        refine e_lload_n (pc := 27) (i := 2) dX10_payFault_27 rfl rfl ?_
        refine e_aload_n (pc := 28) (i := 1) dX10_payFault_28 rfl rfl ?_
        have k9 := hv.1
        replace hv := hv.2
        refine e_getR (pc := 29) dX10_payFault_29 fRX10_141 rfl k9 ?_
        refine e_aload_n (pc := 32) (i := 1) dX10_payFault_32 rfl rfl ?_
        have k12 := hv.1
        replace hv := hv.2
        refine e_callVj (pc := 33) (ci := 9) (st := [vJ a2]) (rc' := 0) (rs' := 0) (B' := bX9_owedBelow) [vR a1] dX10_payFault_33 vRX10_178 kX9_owedBelow (by decide) rfl k12 rfl rfl (Nat.le_of_ble_eq_true rfl) ⟨Nat.le_of_ble_eq_true rfl, Nat.le_of_ble_eq_true rfl⟩ rfl rfl hv (fun x11 w10 hv => ?_)
        refine e_lcmp (pc := 36) dX10_payFault_36 ?_
        refine e_if_le (pc := 37) (tgt := 42) dX10_payFault_37 (by decide) (fun h13 => ?_) (fun h13 => ?_)
        · replace hv := hv.1 h13
          refine e_aload_n (pc := 42) (i := 1) dX10_payFault_42 rfl rfl ?_
          have k14 := hv.1
          replace hv := hv.2
          refine e_getR (pc := 43) dX10_payFault_43 fRX10_141 rfl k14 ?_
          refine e_aload_n (pc := 46) (i := 0) dX10_payFault_46 rfl rfl ?_
          have k15 := hv.1
          replace hv := hv.2
          refine e_getR (pc := 47) dX10_payFault_47 fRX10_33 rfl k15 ?_
          have k18 := hv.1
          replace hv := hv.2
          refine e_callVi (pc := 50) (ci := 9) (st := []) (rc' := 0) (rs' := 0) (B' := bX9_livesAt) [vR (wR w10 10 8 a0)] dX10_payFault_50 vRX10_174 kX9_livesAt (by decide) rfl k18 rfl rfl (Nat.le_of_ble_eq_true rfl) ⟨Nat.le_of_ble_eq_true rfl, Nat.le_of_ble_eq_true rfl⟩ rfl rfl hv (fun x17 w16 hv => ?_)
          refine e_if_ne (pc := 53) (tgt := 59) dX10_payFault_53 (by decide) (fun h19 => ?_) (fun h19 => ?_)
          · replace hv := hv.1 h19
            refine e_aload_n (pc := 59) (i := 1) dX10_payFault_59 rfl rfl ?_
            have k20 := hv.1
            replace hv := hv.2
            refine e_getI (pc := 60) dX10_payFault_60 fRX10_182 rfl k20 ?_
            refine e_if_eq (pc := 63) (tgt := 71) dX10_payFault_63 (by decide) (fun h21 => ?_) (fun h21 => ?_)
            · replace hv := hv.1 h21
              refine e_iconst (pc := 71) (v := 0) dX10_payFault_71 (by decide) ?_
              exact e_ireturn (pc := 72) dX10_payFault_72 rfl ⟨_, rfl, hv⟩
            · replace hv := hv.2 h21
              refine e_bipush (pc := 66) (v := 8) dX10_payFault_66 (by decide) ?_
              refine e_goto (pc := 68) (tgt := 72) dX10_payFault_68 (by decide) ?_
              exact e_ireturn (pc := 72) dX10_payFault_72 rfl ⟨_, rfl, hv⟩
          · replace hv := hv.2 h19
            refine e_bipush (pc := 56) (v := 6) dX10_payFault_56 (by decide) ?_
            exact e_ireturn (pc := 58) dX10_payFault_58 rfl ⟨_, rfl, hv⟩
        · replace hv := hv.2 h13
          refine e_iconst (pc := 40) (v := 5) dX10_payFault_40 (by decide) ?_
          exact e_ireturn (pc := 41) dX10_payFault_41 rfl ⟨_, rfl, hv⟩
    · replace hv := hv.2 h7
      refine e_iconst (pc := 19) (v := 4) dX10_payFault_19 (by decide) ?_
      exact e_ireturn (pc := 20) dX10_payFault_20 rfl ⟨_, rfl, hv⟩
  · replace hv := hv.2 h1
    refine e_iconst (pc := 4) (v := 1) dX10_payFault_4 (by decide) ?_
    exact e_ireturn (pc := 5) dX10_payFault_5 rfl ⟨_, rfl, hv⟩
set_option maxRecDepth 100000 in
set_option maxHeartbeats 4000000 in
theorem oX10_paper (X : Cx) (A : Int32 → Wd → Prop) (a0 : Nat) (a1 : Int32) (a2 : Int32) (w : Wd)
    (hv : wK w a0 = 11 ∧ Ct X bX10_entryAt mX10_entryAt [vR a0, vI a1] w (qR fun x2 w1 => Ct X bX10_paperFault mX10_paperFault [vR x2] w1 (qI fun x5 w4 => wK w4 a0 = 11 ∧ Ct X bX10_settle mX10_settle [vR a0, vI x5] w4 (qI fun x7 w6 => ((x7 = 0) → A 0 w6) ∧ ((¬ x7 = 0) → ((¬ x2 = 0) → wK w6 x2 = 3 ∧ wK w6 (wR w6 2 1 x2) = 10 ∧ (a2 = 0 ∨ a2 = 1) ∧ ∀ w13 : Wd, w13 = sI w6 9 5 (wR w6 2 1 x2) a2 → A 1 w13) ∧ ((x2 = 0) → A 0 w6)))))) :
    Ct X bX10_paper mX10_paper [vR a0, vI a1, vI a2] w (qI A) := by
  refine Ct.of (lv := [(0, vR a0), (1, vI a1), (2, vI a2)]) rfl (Nat.le_of_ble_eq_true rfl) rfl ?_
  refine e_aload_n (pc := 0) (i := 0) dX10_paper_0 rfl rfl ?_
  refine e_iload_n (pc := 1) (i := 1) dX10_paper_1 rfl rfl ?_
  have k3 := hv.1
  replace hv := hv.2
  refine e_callVr (pc := 2) (ci := 10) (st := []) (rc' := 0) (rs' := 0) (B' := bX10_entryAt) [vI a1] dX10_paper_2 vRX10_133 kX10_entryAt (by decide) rfl k3 rfl rfl (Nat.le_of_ble_eq_true rfl) ⟨Nat.le_of_ble_eq_true rfl, Nat.le_of_ble_eq_true rfl⟩ rfl rfl hv (fun x2 w1 hv => ?_)
  refine e_astore_n (pc := 5) (i := 3) (lv' := [(0, vR a0), (1, vI a1), (2, vI a2), (3, vR x2)]) dX10_paper_5 rfl (by decide) rfl ?_
  refine e_aload_n (pc := 6) (i := 0) dX10_paper_6 rfl rfl ?_
  refine e_aload_n (pc := 7) (i := 3) dX10_paper_7 rfl rfl ?_
  refine e_callSi (pc := 8) (st := [vR a0]) (rc' := 0) (rs' := 0) (B' := bX10_paperFault) [vR x2] dX10_paper_8 vRX10_193 kX10_paperFault rfl rfl (Nat.le_of_ble_eq_true rfl) ⟨Nat.le_of_ble_eq_true rfl, Nat.le_of_ble_eq_true rfl⟩ rfl rfl hv (fun x5 w4 hv => ?_)
  have k8 := hv.1
  replace hv := hv.2
  refine e_callVi (pc := 11) (ci := 10) (st := []) (rc' := 0) (rs' := 0) (B' := bX10_settle) [vI x5] dX10_paper_11 vRX10_41 kX10_settle (by decide) rfl k8 rfl rfl (Nat.le_of_ble_eq_true rfl) ⟨Nat.le_of_ble_eq_true rfl, Nat.le_of_ble_eq_true rfl⟩ rfl rfl hv (fun x7 w6 hv => ?_)
  refine e_if_eq (pc := 14) (tgt := 21) dX10_paper_14 (by decide) (fun h9 => ?_) (fun h9 => ?_)
  · replace hv := hv.1 h9
    refine e_iconst (pc := 21) (v := 0) dX10_paper_21 (by decide) ?_
    exact e_zreturn (pc := 22) dX10_paper_22 rfl (Or.inl rfl) ⟨_, rfl, hv⟩
  · replace hv := hv.2 h9
    refine e_aload_n (pc := 17) (i := 3) dX10_paper_17 rfl rfl ?_
    refine e_ifnonnull (pc := 18) (tgt := 23) dX10_paper_18 (by decide) (fun h10 => ?_) (fun h10 => ?_)
    · replace hv := hv.1 h10
      refine e_aload_n (pc := 23) (i := 3) dX10_paper_23 rfl rfl ?_
      have k11 := hv.1
      replace hv := hv.2
      refine e_getR (pc := 24) dX10_paper_24 fRX10_141 rfl k11 ?_
      refine e_iload_n (pc := 27) (i := 2) dX10_paper_27 rfl rfl ?_
      have k12 := hv.1
      replace hv := hv.2
      have hz := hv.1
      replace hv := hv.2
      obtain ⟨w13, hw13⟩ : ∃ w13 : Wd, w13 = sI w6 9 5 (wR w6 2 1 x2) a2 := ⟨_, rfl⟩
      replace hv := hv w13 hw13
      refine e_putZ (pc := 28) dX10_paper_28 fRX10_196 (Or.inl rfl) rfl k12 hz ?_
      rw [← hw13]
      refine e_iconst (pc := 31) (v := 1) dX10_paper_31 (by decide) ?_
      exact e_zreturn (pc := 32) dX10_paper_32 rfl (Or.inr rfl) ⟨_, rfl, hv⟩
    · replace hv := hv.2 h10
      refine e_iconst (pc := 21) (v := 0) dX10_paper_21 (by decide) ?_
      exact e_zreturn (pc := 22) dX10_paper_22 rfl (Or.inl rfl) ⟨_, rfl, hv⟩
set_option maxRecDepth 100000 in
set_option maxHeartbeats 4000000 in
theorem oX10_paperFault (X : Cx) (A : Int32 → Wd → Prop) (a0 : Nat) (w : Wd)
    (hv : ((¬ a0 = 0) → wK w a0 = 3 ∧ wK w (wR w 2 1 a0) = 10 ∧ wK w (wR w 9 3 (wR w 2 1 a0)) = 9 ∧ Ct X bX8_hasPaper mX8_hasPaper [vR (wR w 9 3 (wR w 2 1 a0))] w (qI fun x5 w4 => ((x5 = 0) → A 4 w4) ∧ ((¬ x5 = 0) → A 0 w4))) ∧ ((a0 = 0) → A 1 w)) :
    Ct X bX10_paperFault mX10_paperFault [vR a0] w (qI A) := by
  refine Ct.of (lv := [(0, vR a0)]) rfl (Nat.le_of_ble_eq_true rfl) rfl ?_
  refine e_aload_n (pc := 0) (i := 0) dX10_paperFault_0 rfl rfl ?_
  refine e_ifnonnull (pc := 1) (tgt := 6) dX10_paperFault_1 (by decide) (fun h1 => ?_) (fun h1 => ?_)
  · replace hv := hv.1 h1
    refine e_aload_n (pc := 6) (i := 0) dX10_paperFault_6 rfl rfl ?_
    have k2 := hv.1
    replace hv := hv.2
    refine e_getR (pc := 7) dX10_paperFault_7 fRX10_141 rfl k2 ?_
    have k3 := hv.1
    replace hv := hv.2
    refine e_getR (pc := 10) dX10_paperFault_10 fRX10_145 rfl k3 ?_
    have k6 := hv.1
    replace hv := hv.2
    refine e_callVi (pc := 13) (ci := 8) (st := []) (rc' := 0) (rs' := 0) (B' := bX8_hasPaper) [] dX10_paperFault_13 vRX10_199 kX8_hasPaper (by decide) rfl k6 rfl rfl (Nat.le_of_ble_eq_true rfl) ⟨Nat.le_of_ble_eq_true rfl, Nat.le_of_ble_eq_true rfl⟩ rfl rfl hv (fun x5 w4 hv => ?_)
    refine e_if_eq (pc := 16) (tgt := 23) dX10_paperFault_16 (by decide) (fun h7 => ?_) (fun h7 => ?_)
    · replace hv := hv.1 h7
      refine e_iconst (pc := 23) (v := 4) dX10_paperFault_23 (by decide) ?_
      exact e_ireturn (pc := 24) dX10_paperFault_24 rfl ⟨_, rfl, hv⟩
    · replace hv := hv.2 h7
      refine e_iconst (pc := 19) (v := 0) dX10_paperFault_19 (by decide) ?_
      refine e_goto (pc := 20) (tgt := 24) dX10_paperFault_20 (by decide) ?_
      exact e_ireturn (pc := 24) dX10_paperFault_24 rfl ⟨_, rfl, hv⟩
  · replace hv := hv.2 h1
    refine e_iconst (pc := 4) (v := 1) dX10_paperFault_4 (by decide) ?_
    exact e_ireturn (pc := 5) dX10_paperFault_5 rfl ⟨_, rfl, hv⟩
set_option maxRecDepth 100000 in
set_option maxHeartbeats 4000000 in
theorem oX10_split (X : Cx) (A : Int32 → Wd → Prop) (a0 : Nat) (a1 : Int32) (a2 : Int64) (w : Wd)
    (hv : wK w a0 = 11 ∧ Ct X bX10_entryAt mX10_entryAt [vR a0, vI a1] w (qR fun x2 w1 => wK w1 a0 = 11 ∧ Ct X bX10_divideFault mX10_divideFault [vR a0, vR x2, vJ a2, vI 1, vI 0] w1 (qI fun x5 w4 => wK w4 a0 = 11 ∧ Ct X bX10_settle mX10_settle [vR a0, vI x5] w4 (qI fun x8 w7 => ((x8 = 0) → A (-1) w7) ∧ ((¬ x8 = 0) → ((¬ x2 = 0) → wK w7 x2 = 3 ∧ wK w7 a0 = 11 ∧ Ct X bX10_divide mX10_divide [vR a0, vR x2, vJ a2, vI (wI w7 2 3 x2)] w7 (qI fun x14 w13 => A x14 w13)) ∧ ((x2 = 0) → A (-1) w7)))))) :
    Ct X bX10_split mX10_split [vR a0, vI a1, vJ a2] w (qI A) := by
  refine Ct.of (lv := [(0, vR a0), (1, vI a1), (2, vJ a2)]) rfl (Nat.le_of_ble_eq_true rfl) rfl ?_
  refine e_aload_n (pc := 0) (i := 0) dX10_split_0 rfl rfl ?_
  refine e_iload_n (pc := 1) (i := 1) dX10_split_1 rfl rfl ?_
  have k3 := hv.1
  replace hv := hv.2
  refine e_callVr (pc := 2) (ci := 10) (st := []) (rc' := 2) (rs' := 26) (B' := bX10_entryAt) [vI a1] dX10_split_2 vRX10_133 kX10_entryAt (by decide) rfl k3 rfl rfl (Nat.le_of_ble_eq_true rfl) ⟨Nat.le_of_ble_eq_true rfl, Nat.le_of_ble_eq_true rfl⟩ rfl rfl hv (fun x2 w1 hv => ?_)
  refine e_astore (pc := 5) (i := 4) (lv' := [(0, vR a0), (1, vI a1), (2, vJ a2), (4, vR x2)]) dX10_split_5 (by decide) rfl ?_
  refine e_aload_n (pc := 7) (i := 0) dX10_split_7 rfl rfl ?_
  refine e_aload_n (pc := 8) (i := 0) dX10_split_8 rfl rfl ?_
  refine e_aload (pc := 9) (i := 4) dX10_split_9 rfl ?_
  refine e_lload_n (pc := 11) (i := 2) dX10_split_11 rfl rfl ?_
  refine e_iconst (pc := 12) (v := 1) dX10_split_12 (by decide) ?_
  refine e_iconst (pc := 13) (v := 0) dX10_split_13 (by decide) ?_
  have k6 := hv.1
  replace hv := hv.2
  refine e_callVi (pc := 14) (ci := 10) (st := [vR a0]) (rc' := 2) (rs' := 26) (B' := bX10_divideFault) [vR x2, vJ a2, vI 1, vI 0] dX10_split_14 vRX10_202 kX10_divideFault (by decide) rfl k6 rfl rfl (Nat.le_of_ble_eq_true rfl) ⟨Nat.le_of_ble_eq_true rfl, Nat.le_of_ble_eq_true rfl⟩ rfl rfl hv (fun x5 w4 hv => ?_)
  have k9 := hv.1
  replace hv := hv.2
  refine e_callVi (pc := 17) (ci := 10) (st := []) (rc' := 2) (rs' := 26) (B' := bX10_settle) [vI x5] dX10_split_17 vRX10_41 kX10_settle (by decide) rfl k9 rfl rfl (Nat.le_of_ble_eq_true rfl) ⟨Nat.le_of_ble_eq_true rfl, Nat.le_of_ble_eq_true rfl⟩ rfl rfl hv (fun x8 w7 hv => ?_)
  refine e_if_eq (pc := 20) (tgt := 28) dX10_split_20 (by decide) (fun h10 => ?_) (fun h10 => ?_)
  · replace hv := hv.1 h10
    refine e_iconst (pc := 28) (v := (-1)) dX10_split_28 (by decide) ?_
    exact e_ireturn (pc := 29) dX10_split_29 rfl ⟨_, rfl, hv⟩
  · replace hv := hv.2 h10
    refine e_aload (pc := 23) (i := 4) dX10_split_23 rfl ?_
    refine e_ifnonnull (pc := 25) (tgt := 30) dX10_split_25 (by decide) (fun h11 => ?_) (fun h11 => ?_)
    · replace hv := hv.1 h11
      refine e_aload_n (pc := 30) (i := 0) dX10_split_30 rfl rfl ?_
      refine e_aload (pc := 31) (i := 4) dX10_split_31 rfl ?_
      refine e_lload_n (pc := 33) (i := 2) dX10_split_33 rfl rfl ?_
      refine e_aload (pc := 34) (i := 4) dX10_split_34 rfl ?_
      have k12 := hv.1
      replace hv := hv.2
      refine e_getI (pc := 36) dX10_split_36 fRX10_206 rfl k12 ?_
      have k15 := hv.1
      replace hv := hv.2
      refine e_callVi (pc := 39) (ci := 10) (st := []) (rc' := 0) (rs' := 0) (B' := bX10_divide) [vR x2, vJ a2, vI (wI w7 2 3 x2)] dX10_split_39 vRX10_209 kX10_divide (by decide) rfl k15 rfl rfl (Nat.le_of_ble_eq_true rfl) ⟨Nat.le_of_ble_eq_true rfl, Nat.le_of_ble_eq_true rfl⟩ rfl rfl hv (fun x14 w13 hv => ?_)
      exact e_ireturn (pc := 42) dX10_split_42 rfl ⟨_, rfl, hv⟩
    · replace hv := hv.2 h11
      refine e_iconst (pc := 28) (v := (-1)) dX10_split_28 (by decide) ?_
      exact e_ireturn (pc := 29) dX10_split_29 rfl ⟨_, rfl, hv⟩
abbrev jX10_hand_26 (X : Cx) (A : Int32 → Wd → Prop) (l0 : Nat) (l2 : Int64) (l4 : Int32) (l5 : Nat) (s0 : Int32) (w : Wd) : Prop := EJ X mX10_hand (vw X bX10_hand (qI A)) 2 26 26 [(0, vR l0), (2, vJ l2), (4, vI l4), (5, vR l5)] [vI s0] w
set_option maxRecDepth 100000 in
set_option maxHeartbeats 4000000 in
theorem tX10_hand_26 (X : Cx) (A : Int32 → Wd → Prop) (l0 : Nat) (l2 : Int64) (l4 : Int32) (l5 : Nat) (s0 : Int32) (w : Wd)
    (hv : wK w l0 = 11 ∧ Ct X bX10_divideFault mX10_divideFault [vR l0, vR l5, vJ l2, vI s0, vI 1] w (qI fun x2 w1 => wK w1 l0 = 11 ∧ Ct X bX10_settle mX10_settle [vR l0, vI x2] w1 (qI fun x5 w4 => ((x5 = 0) → A (-1) w4) ∧ ((¬ x5 = 0) → ((¬ l5 = 0) → wK w4 l5 = 3 ∧ wK w4 l0 = 11 ∧ Ct X bX10_divide mX10_divide [vR l0, vR l5, vJ ((wJ w4 2 4 l5) - l2), vI l4] w4 (qI fun x11 w10 => A (x11 + 1) w10)) ∧ ((l5 = 0) → A (-1) w4))))) :
    jX10_hand_26 X A l0 l2 l4 l5 s0 w := by
  refine e_istore (pc := 26) (i := 6) (lv' := [(0, vR l0), (2, vJ l2), (4, vI l4), (5, vR l5), (6, vI s0)]) dX10_hand_26 (by decide) rfl ?_
  refine e_aload_n (pc := 28) (i := 0) dX10_hand_28 rfl rfl ?_
  refine e_aload_n (pc := 29) (i := 0) dX10_hand_29 rfl rfl ?_
  refine e_aload (pc := 30) (i := 5) dX10_hand_30 rfl ?_
  refine e_lload_n (pc := 32) (i := 2) dX10_hand_32 rfl rfl ?_
  refine e_iload (pc := 33) (i := 6) dX10_hand_33 rfl ?_
  refine e_iconst (pc := 35) (v := 1) dX10_hand_35 (by decide) ?_
  have k3 := hv.1
  replace hv := hv.2
  refine e_callVi (pc := 36) (ci := 10) (st := [vR l0]) (rc' := 2) (rs' := 26) (B' := bX10_divideFault) [vR l5, vJ l2, vI s0, vI 1] dX10_hand_36 vRX10_202 kX10_divideFault (by decide) rfl k3 rfl rfl (Nat.le_of_ble_eq_true rfl) ⟨Nat.le_of_ble_eq_true rfl, Nat.le_of_ble_eq_true rfl⟩ rfl rfl hv (fun x2 w1 hv => ?_)
  have k6 := hv.1
  replace hv := hv.2
  refine e_callVi (pc := 39) (ci := 10) (st := []) (rc' := 2) (rs' := 26) (B' := bX10_settle) [vI x2] dX10_hand_39 vRX10_41 kX10_settle (by decide) rfl k6 rfl rfl (Nat.le_of_ble_eq_true rfl) ⟨Nat.le_of_ble_eq_true rfl, Nat.le_of_ble_eq_true rfl⟩ rfl rfl hv (fun x5 w4 hv => ?_)
  refine e_if_eq (pc := 42) (tgt := 50) dX10_hand_42 (by decide) (fun h7 => ?_) (fun h7 => ?_)
  · replace hv := hv.1 h7
    refine e_iconst (pc := 50) (v := (-1)) dX10_hand_50 (by decide) ?_
    exact e_ireturn (pc := 51) dX10_hand_51 rfl ⟨_, rfl, hv⟩
  · replace hv := hv.2 h7
    refine e_aload (pc := 45) (i := 5) dX10_hand_45 rfl ?_
    refine e_ifnonnull (pc := 47) (tgt := 52) dX10_hand_47 (by decide) (fun h8 => ?_) (fun h8 => ?_)
    · replace hv := hv.1 h8
      refine e_aload_n (pc := 52) (i := 0) dX10_hand_52 rfl rfl ?_
      refine e_aload (pc := 53) (i := 5) dX10_hand_53 rfl ?_
      refine e_aload (pc := 55) (i := 5) dX10_hand_55 rfl ?_
      have k9 := hv.1
      replace hv := hv.2
      refine e_getJ (pc := 57) dX10_hand_57 fRX10_168 rfl k9 ?_
      refine e_lload_n (pc := 60) (i := 2) dX10_hand_60 rfl rfl ?_
      refine e_lsub (pc := 61) dX10_hand_61 ?_
      refine e_iload (pc := 62) (i := 4) dX10_hand_62 rfl ?_
      have k12 := hv.1
      replace hv := hv.2
      refine e_callVi (pc := 64) (ci := 10) (st := []) (rc' := 0) (rs' := 0) (B' := bX10_divide) [vR l5, vJ ((wJ w4 2 4 l5) - l2), vI l4] dX10_hand_64 vRX10_209 kX10_divide (by decide) rfl k12 rfl rfl (Nat.le_of_ble_eq_true rfl) ⟨Nat.le_of_ble_eq_true rfl, Nat.le_of_ble_eq_true rfl⟩ rfl rfl hv (fun x11 w10 hv => ?_)
      refine e_iconst (pc := 67) (v := 1) dX10_hand_67 (by decide) ?_
      refine e_iadd (pc := 68) dX10_hand_68 ?_
      exact e_ireturn (pc := 69) dX10_hand_69 rfl ⟨_, rfl, hv⟩
    · replace hv := hv.2 h8
      refine e_iconst (pc := 50) (v := (-1)) dX10_hand_50 (by decide) ?_
      exact e_ireturn (pc := 51) dX10_hand_51 rfl ⟨_, rfl, hv⟩
set_option maxRecDepth 100000 in
set_option maxHeartbeats 4000000 in
theorem oX10_hand (X : Cx) (A : Int32 → Wd → Prop) (a0 : Nat) (a1 : Int32) (a2 : Int64) (a4 : Int32) (w : Wd)
    (hv : wK w a0 = 11 ∧ Ct X bX10_entryAt mX10_entryAt [vR a0, vI a1] w (qR fun x2 w1 => ((a4 < 1) → jX10_hand_26 X A a0 a2 a4 x2 0 w1) ∧ ((¬ a4 < 1) → ((1000 < a4) → jX10_hand_26 X A a0 a2 a4 x2 0 w1) ∧ ((¬ 1000 < a4) → jX10_hand_26 X A a0 a2 a4 x2 1 w1)))) :
    Ct X bX10_hand mX10_hand [vR a0, vI a1, vJ a2, vI a4] w (qI A) := by
  refine Ct.of (lv := [(0, vR a0), (1, vI a1), (2, vJ a2), (4, vI a4)]) rfl (Nat.le_of_ble_eq_true rfl) rfl ?_
  refine e_aload_n (pc := 0) (i := 0) dX10_hand_0 rfl rfl ?_
  refine e_iload_n (pc := 1) (i := 1) dX10_hand_1 rfl rfl ?_
  have k3 := hv.1
  replace hv := hv.2
  refine e_callVr (pc := 2) (ci := 10) (st := []) (rc' := 2) (rs' := 26) (B' := bX10_entryAt) [vI a1] dX10_hand_2 vRX10_133 kX10_entryAt (by decide) rfl k3 rfl rfl (Nat.le_of_ble_eq_true rfl) ⟨Nat.le_of_ble_eq_true rfl, Nat.le_of_ble_eq_true rfl⟩ rfl rfl hv (fun x2 w1 hv => ?_)
  refine e_astore (pc := 5) (i := 5) (lv' := [(0, vR a0), (1, vI a1), (2, vJ a2), (4, vI a4), (5, vR x2)]) dX10_hand_5 (by decide) rfl ?_
  refine e_iload (pc := 7) (i := 4) dX10_hand_7 rfl ?_
  refine e_iconst (pc := 9) (v := 1) dX10_hand_9 (by decide) ?_
  refine e_icmp_lt (pc := 10) (tgt := 25) dX10_hand_10 (by decide) (fun h4 => ?_) (fun h4 => ?_)
  · replace hv := hv.1 h4
    refine e_iconst (pc := 25) (v := 0) dX10_hand_25 (by decide) ?_
    exact EJ.drop [0, 2, 4, 5] rfl hv
  · replace hv := hv.2 h4
    refine e_iload (pc := 13) (i := 4) dX10_hand_13 rfl ?_
    refine e_sipush (pc := 15) (v := 1000) dX10_hand_15 (by decide) ?_
    refine e_icmp_gt (pc := 18) (tgt := 25) dX10_hand_18 (by decide) (fun h5 => ?_) (fun h5 => ?_)
    · replace hv := hv.1 h5
      refine e_iconst (pc := 25) (v := 0) dX10_hand_25 (by decide) ?_
      exact EJ.drop [0, 2, 4, 5] rfl hv
    · replace hv := hv.2 h5
      refine e_iconst (pc := 21) (v := 1) dX10_hand_21 (by decide) ?_
      refine e_goto (pc := 22) (tgt := 26) dX10_hand_22 (by decide) ?_
      exact EJ.drop [0, 2, 4, 5] rfl hv
abbrev jX10_divideFault_91 (X : Cx) (A : Int32 → Wd → Prop) (l0 : Nat) (l1 : Nat) (w : Wd) : Prop := EJ X mX10_divideFault (vw X bX10_divideFault (qI A)) 0 0 91 [(0, vR l0), (1, vR l1)] [] w
set_option maxRecDepth 100000 in
set_option maxHeartbeats 4000000 in
theorem tX10_divideFault_91 (X : Cx) (A : Int32 → Wd → Prop) (l0 : Nat) (l1 : Nat) (w : Wd)
    (hv : wK w l1 = 3 ∧ (((wI w 2 5 l1) = 0) → wK w l0 = 11 ∧ ((((wI w 10 4 l0) + 2) ≤ 300) → A 0 w) ∧ ((¬ ((wI w 10 4 l0) + 2) ≤ 300) → A 10 w)) ∧ ((¬ (wI w 2 5 l1) = 0) → A 8 w)) :
    jX10_divideFault_91 X A l0 l1 w := by
  refine e_aload_n (pc := 91) (i := 1) dX10_divideFault_91 rfl rfl ?_
  have k1 := hv.1
  replace hv := hv.2
  refine e_getI (pc := 92) dX10_divideFault_92 fRX10_182 rfl k1 ?_
  refine e_if_eq (pc := 95) (tgt := 101) dX10_divideFault_95 (by decide) (fun h2 => ?_) (fun h2 => ?_)
  · replace hv := hv.1 h2
    refine e_aload_n (pc := 101) (i := 0) dX10_divideFault_101 rfl rfl ?_
    have k3 := hv.1
    replace hv := hv.2
    refine e_getI (pc := 102) dX10_divideFault_102 fRX10_98 rfl k3 ?_
    refine e_iconst (pc := 105) (v := 2) dX10_divideFault_105 (by decide) ?_
    refine e_iadd (pc := 106) dX10_divideFault_106 ?_
    refine e_sipush (pc := 107) (v := 300) dX10_divideFault_107 (by decide) ?_
    refine e_icmp_le (pc := 110) (tgt := 118) dX10_divideFault_110 (by decide) (fun h4 => ?_) (fun h4 => ?_)
    · replace hv := hv.1 h4
      refine e_iconst (pc := 118) (v := 0) dX10_divideFault_118 (by decide) ?_
      exact e_ireturn (pc := 119) dX10_divideFault_119 rfl ⟨_, rfl, hv⟩
    · replace hv := hv.2 h4
      refine e_bipush (pc := 113) (v := 10) dX10_divideFault_113 (by decide) ?_
      refine e_goto (pc := 115) (tgt := 119) dX10_divideFault_115 (by decide) ?_
      exact e_ireturn (pc := 119) dX10_divideFault_119 rfl ⟨_, rfl, hv⟩
  · replace hv := hv.2 h2
    refine e_bipush (pc := 98) (v := 8) dX10_divideFault_98 (by decide) ?_
    exact e_ireturn (pc := 100) dX10_divideFault_100 rfl ⟨_, rfl, hv⟩
set_option maxRecDepth 100000 in
set_option maxHeartbeats 4000000 in
theorem oX10_divideFault (X : Cx) (A : Int32 → Wd → Prop) (a0 : Nat) (a1 : Nat) (a2 : Int64) (a4 : Int32) (a5 : Int32) (w : Wd)
    (hv : ((¬ a1 = 0) → wK w a1 = 3 ∧ wK w (wR w 2 1 a1) = 10 ∧ wK w (wR w 9 3 (wR w 2 1 a1)) = 9 ∧ Ct X bX8_isDivisible mX8_isDivisible [vR (wR w 9 3 (wR w 2 1 a1))] w (qI fun x5 w4 => ((¬ x5 = 0) → ((a4 = 0) → A 5 w4) ∧ ((¬ a4 = 0) → (((lg_cmp a2 0) < 0) → A 5 w4) ∧ ((¬ (lg_cmp a2 0) < 0) → wK w4 (wR w 2 1 a1) = 10 ∧ Ct X bX9_owedBelow mX9_owedBelow [vR (wR w 2 1 a1), vR a1] w4 (qJ fun x11 w10 => (((lg_cmp a2 x11) ≤ 0) → wK w10 a0 = 11 ∧ wK w10 (wR w 2 1 a1) = 10 ∧ Ct X bX9_livesAt mX9_livesAt [vR (wR w 2 1 a1), vR (wR w10 10 8 a0)] w10 (qI fun x16 w15 => ((¬ x16 = 0) → ((a5 = 0) → jX10_divideFault_91 X A a0 a1 w15) ∧ ((¬ a5 = 0) → wK w15 (wR w 2 1 a1) = 10 ∧ wK w15 (wR w15 9 3 (wR w 2 1 a1)) = 9 ∧ Ct X bX8_hasPaper mX8_hasPaper [vR (wR w15 9 3 (wR w 2 1 a1))] w15 (qI fun x22 w21 => ((x22 = 0) → jX10_divideFault_91 X A a0 a1 w21) ∧ ((¬ x22 = 0) → wK w21 (wR w 2 1 a1) = 10 ∧ ((¬ (wI w21 9 5 (wR w 2 1 a1)) = 0) → jX10_divideFault_91 X A a0 a1 w21) ∧ (((wI w21 9 5 (wR w 2 1 a1)) = 0) → A 7 w21))))) ∧ ((x16 = 0) → A 6 w15))) ∧ ((¬ (lg_cmp a2 x11) ≤ 0) → A 5 w10))))) ∧ ((x5 = 0) → A 4 w4))) ∧ ((a1 = 0) → A 1 w)) :
    Ct X bX10_divideFault mX10_divideFault [vR a0, vR a1, vJ a2, vI a4, vI a5] w (qI A) := by
  refine Ct.of (lv := [(0, vR a0), (1, vR a1), (2, vJ a2), (4, vI a4), (5, vI a5)]) rfl (Nat.le_of_ble_eq_true rfl) rfl ?_
  refine e_aload_n (pc := 0) (i := 1) dX10_divideFault_0 rfl rfl ?_
  refine e_ifnonnull (pc := 1) (tgt := 6) dX10_divideFault_1 (by decide) (fun h1 => ?_) (fun h1 => ?_)
  · replace hv := hv.1 h1
    refine e_aload_n (pc := 6) (i := 1) dX10_divideFault_6 rfl rfl ?_
    have k2 := hv.1
    replace hv := hv.2
    refine e_getR (pc := 7) dX10_divideFault_7 fRX10_141 rfl k2 ?_
    refine e_astore (pc := 10) (i := 6) (lv' := [(0, vR a0), (1, vR a1), (2, vJ a2), (4, vI a4), (5, vI a5), (6, vR (wR w 2 1 a1))]) dX10_divideFault_10 (by decide) rfl ?_
    refine e_aload (pc := 12) (i := 6) dX10_divideFault_12 rfl ?_
    have k3 := hv.1
    replace hv := hv.2
    refine e_getR (pc := 14) dX10_divideFault_14 fRX10_145 rfl k3 ?_
    have k6 := hv.1
    replace hv := hv.2
    refine e_callVi (pc := 17) (ci := 8) (st := []) (rc' := 0) (rs' := 0) (B' := bX8_isDivisible) [] dX10_divideFault_17 vRX10_189 kX8_isDivisible (by decide) rfl k6 rfl rfl (Nat.le_of_ble_eq_true rfl) ⟨Nat.le_of_ble_eq_true rfl, Nat.le_of_ble_eq_true rfl⟩ rfl rfl hv (fun x5 w4 hv => ?_)
    refine e_if_ne (pc := 20) (tgt := 25) dX10_divideFault_20 (by decide) (fun h7 => ?_) (fun h7 => ?_)
    · replace hv := hv.1 h7
      refine e_iload (pc := 25) (i := 4) dX10_divideFault_25 rfl ?_
      refine e_if_eq (pc := 27) (tgt := 47) dX10_divideFault_27 (by decide) (fun h8 => ?_) (fun h8 => ?_)
      · replace hv := hv.1 h8
        refine e_iconst (pc := 47) (v := 5) dX10_divideFault_47 (by decide) ?_
        exact e_ireturn (pc := 48) dX10_divideFault_48 rfl ⟨_, rfl, hv⟩
      · replace hv := hv.2 h8
        refine e_lload_n (pc := 30) (i := 2) dX10_divideFault_30 rfl rfl ?_
        refine e_lconst (pc := 31) (v := 0) dX10_divideFault_31 (by decide) ?_
        refine e_lcmp (pc := 32) dX10_divideFault_32 ?_
        refine e_if_lt (pc := 33) (tgt := 47) dX10_divideFault_33 (by decide) (fun h9 => ?_) (fun h9 => ?_)
        · replace hv := hv.1 h9
          refine e_iconst (pc := 47) (v := 5) dX10_divideFault_47 (by decide) ?_
          exact e_ireturn (pc := 48) dX10_divideFault_48 rfl ⟨_, rfl, hv⟩
        · replace hv := hv.2 h9
          refine e_lload_n (pc := 36) (i := 2) dX10_divideFault_36 rfl rfl ?_
          refine e_aload (pc := 37) (i := 6) dX10_divideFault_37 rfl ?_
          refine e_aload_n (pc := 39) (i := 1) dX10_divideFault_39 rfl rfl ?_
          have k12 := hv.1
          replace hv := hv.2
          refine e_callVj (pc := 40) (ci := 9) (st := [vJ a2]) (rc' := 0) (rs' := 0) (B' := bX9_owedBelow) [vR a1] dX10_divideFault_40 vRX10_178 kX9_owedBelow (by decide) rfl k12 rfl rfl (Nat.le_of_ble_eq_true rfl) ⟨Nat.le_of_ble_eq_true rfl, Nat.le_of_ble_eq_true rfl⟩ rfl rfl hv (fun x11 w10 hv => ?_)
          refine e_lcmp (pc := 43) dX10_divideFault_43 ?_
          refine e_if_le (pc := 44) (tgt := 49) dX10_divideFault_44 (by decide) (fun h13 => ?_) (fun h13 => ?_)
          · replace hv := hv.1 h13
            refine e_aload (pc := 49) (i := 6) dX10_divideFault_49 rfl ?_
            refine e_aload_n (pc := 51) (i := 0) dX10_divideFault_51 rfl rfl ?_
            have k14 := hv.1
            replace hv := hv.2
            refine e_getR (pc := 52) dX10_divideFault_52 fRX10_33 rfl k14 ?_
            have k17 := hv.1
            replace hv := hv.2
            refine e_callVi (pc := 55) (ci := 9) (st := []) (rc' := 0) (rs' := 0) (B' := bX9_livesAt) [vR (wR w10 10 8 a0)] dX10_divideFault_55 vRX10_174 kX9_livesAt (by decide) rfl k17 rfl rfl (Nat.le_of_ble_eq_true rfl) ⟨Nat.le_of_ble_eq_true rfl, Nat.le_of_ble_eq_true rfl⟩ rfl rfl hv (fun x16 w15 hv => ?_)
            refine e_if_ne (pc := 58) (tgt := 64) dX10_divideFault_58 (by decide) (fun h18 => ?_) (fun h18 => ?_)
            · replace hv := hv.1 h18
              refine e_iload (pc := 64) (i := 5) dX10_divideFault_64 rfl ?_
              refine e_if_eq (pc := 66) (tgt := 91) dX10_divideFault_66 (by decide) (fun h19 => ?_) (fun h19 => ?_)
              · replace hv := hv.1 h19
                exact EJ.drop [0, 1] rfl hv
              · replace hv := hv.2 h19
                refine e_aload (pc := 69) (i := 6) dX10_divideFault_69 rfl ?_
                have k20 := hv.1
                replace hv := hv.2
                refine e_getR (pc := 71) dX10_divideFault_71 fRX10_145 rfl k20 ?_
                have k23 := hv.1
                replace hv := hv.2
                refine e_callVi (pc := 74) (ci := 8) (st := []) (rc' := 0) (rs' := 0) (B' := bX8_hasPaper) [] dX10_divideFault_74 vRX10_199 kX8_hasPaper (by decide) rfl k23 rfl rfl (Nat.le_of_ble_eq_true rfl) ⟨Nat.le_of_ble_eq_true rfl, Nat.le_of_ble_eq_true rfl⟩ rfl rfl hv (fun x22 w21 hv => ?_)
                refine e_if_eq (pc := 77) (tgt := 91) dX10_divideFault_77 (by decide) (fun h24 => ?_) (fun h24 => ?_)
                · replace hv := hv.1 h24
                  exact EJ.drop [0, 1] rfl hv
                · replace hv := hv.2 h24
                  refine e_aload (pc := 80) (i := 6) dX10_divideFault_80 rfl ?_
                  have k25 := hv.1
                  replace hv := hv.2
                  refine e_getI (pc := 82) dX10_divideFault_82 fRX10_196 rfl k25 ?_
                  refine e_if_ne (pc := 85) (tgt := 91) dX10_divideFault_85 (by decide) (fun h26 => ?_) (fun h26 => ?_)
                  · replace hv := hv.1 h26
                    exact EJ.drop [0, 1] rfl hv
                  · replace hv := hv.2 h26
                    refine e_bipush (pc := 88) (v := 7) dX10_divideFault_88 (by decide) ?_
                    exact e_ireturn (pc := 90) dX10_divideFault_90 rfl ⟨_, rfl, hv⟩
            · replace hv := hv.2 h18
              refine e_bipush (pc := 61) (v := 6) dX10_divideFault_61 (by decide) ?_
              exact e_ireturn (pc := 63) dX10_divideFault_63 rfl ⟨_, rfl, hv⟩
          · replace hv := hv.2 h13
            refine e_iconst (pc := 47) (v := 5) dX10_divideFault_47 (by decide) ?_
            exact e_ireturn (pc := 48) dX10_divideFault_48 rfl ⟨_, rfl, hv⟩
    · replace hv := hv.2 h7
      refine e_iconst (pc := 23) (v := 4) dX10_divideFault_23 (by decide) ?_
      exact e_ireturn (pc := 24) dX10_divideFault_24 rfl ⟨_, rfl, hv⟩
  · replace hv := hv.2 h1
    refine e_iconst (pc := 4) (v := 1) dX10_divideFault_4 (by decide) ?_
    exact e_ireturn (pc := 5) dX10_divideFault_5 rfl ⟨_, rfl, hv⟩
set_option maxRecDepth 100000 in
set_option maxHeartbeats 4000000 in
theorem oX10_divide (X : Cx) (A : Int32 → Wd → Prop) (a0 : Nat) (a1 : Nat) (a2 : Int64) (a4 : Int32) (w : Wd)
    (hv : wK w a1 = 3 ∧ wK w a0 = 11 ∧ ∀ q3 : Nat, wK w q3 = 0 → q3 ≠ 0 → ∀ w4 : Wd, w4 = nO w 2 q3 → Ct X bX2_init mX2_init [vR q3, vI ((wI w 10 4 a0) + 1), vR (wR w 2 1 a1), vR a1, vJ a2, vI (wI w4 2 3 a1)] w4 (qV fun w6 => ∀ q8 : Nat, wK w6 q8 = 0 → q8 ≠ 0 → ∀ w9 : Wd, w9 = nO w6 2 q8 → wK w9 a1 = 3 ∧ Ct X bX2_init mX2_init [vR q8, vI (((wI w 10 4 a0) + 1) + 1), vR (wR w 2 1 a1), vR a1, vJ ((wJ w9 2 4 a1) - a2), vI a4] w9 (qV fun w11 => wK w11 (wR w 2 1 a1) = 10 ∧ Ct X bX9_replaceLeaf mX9_replaceLeaf [vR (wR w 2 1 a1), vR a1, vR q3, vR q8] w11 (qV fun w13 => wK w13 a0 = 11 ∧ Ct X bX10_addEntry mX10_addEntry [vR a0, vR q3] w13 (qI fun x17 w16 => wK w16 a0 = 11 ∧ Ct X bX10_addEntry mX10_addEntry [vR a0, vR q8] w16 (qI fun x20 w19 => A ((wI w 10 4 a0) + 1) w19)))))) :
    Ct X bX10_divide mX10_divide [vR a0, vR a1, vJ a2, vI a4] w (qI A) := by
  refine Ct.of (lv := [(0, vR a0), (1, vR a1), (2, vJ a2), (4, vI a4)]) rfl (Nat.le_of_ble_eq_true rfl) rfl ?_
  refine e_aload_n (pc := 0) (i := 1) dX10_divide_0 rfl rfl ?_
  have k1 := hv.1
  replace hv := hv.2
  refine e_getR (pc := 1) dX10_divide_1 fRX10_141 rfl k1 ?_
  refine e_astore (pc := 4) (i := 5) (lv' := [(0, vR a0), (1, vR a1), (2, vJ a2), (4, vI a4), (5, vR (wR w 2 1 a1))]) dX10_divide_4 (by decide) rfl ?_
  refine e_aload_n (pc := 6) (i := 0) dX10_divide_6 rfl rfl ?_
  have k2 := hv.1
  replace hv := hv.2
  refine e_getI (pc := 7) dX10_divide_7 fRX10_98 rfl k2 ?_
  refine e_iconst (pc := 10) (v := 1) dX10_divide_10 (by decide) ?_
  refine e_iadd (pc := 11) dX10_divide_11 ?_
  refine e_istore (pc := 12) (i := 6) (lv' := [(0, vR a0), (1, vR a1), (2, vJ a2), (4, vI a4), (5, vR (wR w 2 1 a1)), (6, vI ((wI w 10 4 a0) + 1))]) dX10_divide_12 (by decide) rfl ?_
  refine e_new (pc := 14) (ci := 2) (rc' := 1) (rs' := 13) dX10_divide_14 (by decide) (tb_a1 24 (by decide +kernel) rfl) dv2 rfl rfl (fun q3 hq3 nq3 => ?_)
  obtain ⟨w4, hw4⟩ : ∃ w4 : Wd, w4 = nO w 2 q3 := ⟨_, rfl⟩
  replace hv := hv q3 hq3 nq3 w4 hw4
  rw [← hw4]
  refine e_dup (pc := 17) dX10_divide_17 rfl ?_
  refine e_iload (pc := 18) (i := 6) dX10_divide_18 rfl ?_
  refine e_aload (pc := 20) (i := 5) dX10_divide_20 rfl ?_
  refine e_aload_n (pc := 22) (i := 1) dX10_divide_22 rfl rfl ?_
  refine e_lload_n (pc := 23) (i := 2) dX10_divide_23 rfl rfl ?_
  refine e_aload_n (pc := 24) (i := 1) dX10_divide_24 rfl rfl ?_
  have k5 : wK w4 a1 = 3 := (by rw [hw4]; exact nO_old k1 hq3)
  refine e_getI (pc := 25) dX10_divide_25 fRX10_206 rfl k5 ?_
  refine e_callIv (pc := 28) (st := [vR q3]) (rc' := 1) (rs' := 13) (B' := bX2_init) [vI ((wI w 10 4 a0) + 1), vR (wR w 2 1 a1), vR a1, vJ a2, vI (wI w4 2 3 a1)] dX10_divide_28 vRX10_101 kX2_init rfl rfl (K_ne (by rw [hw4]; exact nO_new)) rfl rfl (Nat.le_of_ble_eq_true rfl) ⟨Nat.le_of_ble_eq_true rfl, Nat.le_of_ble_eq_true rfl⟩ rfl rfl hv (fun w6 hv => ?_)
  refine e_astore (pc := 31) (i := 7) (lv' := [(0, vR a0), (1, vR a1), (2, vJ a2), (4, vI a4), (5, vR (wR w 2 1 a1)), (6, vI ((wI w 10 4 a0) + 1)), (7, vR q3)]) dX10_divide_31 (by decide) rfl ?_
  refine e_new (pc := 33) (ci := 2) (rc' := 0) (rs' := 0) dX10_divide_33 (by decide) (tb_a1 24 (by decide +kernel) rfl) dv2 rfl rfl (fun q8 hq8 nq8 => ?_)
  obtain ⟨w9, hw9⟩ : ∃ w9 : Wd, w9 = nO w6 2 q8 := ⟨_, rfl⟩
  replace hv := hv q8 hq8 nq8 w9 hw9
  rw [← hw9]
  refine e_dup (pc := 36) dX10_divide_36 rfl ?_
  refine e_iload (pc := 37) (i := 6) dX10_divide_37 rfl ?_
  refine e_iconst (pc := 39) (v := 1) dX10_divide_39 (by decide) ?_
  refine e_iadd (pc := 40) dX10_divide_40 ?_
  refine e_aload (pc := 41) (i := 5) dX10_divide_41 rfl ?_
  refine e_aload_n (pc := 43) (i := 1) dX10_divide_43 rfl rfl ?_
  refine e_aload_n (pc := 44) (i := 1) dX10_divide_44 rfl rfl ?_
  have k10 := hv.1
  replace hv := hv.2
  refine e_getJ (pc := 45) dX10_divide_45 fRX10_168 rfl k10 ?_
  refine e_lload_n (pc := 48) (i := 2) dX10_divide_48 rfl rfl ?_
  refine e_lsub (pc := 49) dX10_divide_49 ?_
  refine e_iload (pc := 50) (i := 4) dX10_divide_50 rfl ?_
  refine e_callIv (pc := 52) (st := [vR q8]) (rc' := 0) (rs' := 0) (B' := bX2_init) [vI (((wI w 10 4 a0) + 1) + 1), vR (wR w 2 1 a1), vR a1, vJ ((wJ w9 2 4 a1) - a2), vI a4] dX10_divide_52 vRX10_101 kX2_init rfl rfl (K_ne (by rw [hw9]; exact nO_new)) rfl rfl (Nat.le_of_ble_eq_true rfl) ⟨Nat.le_of_ble_eq_true rfl, Nat.le_of_ble_eq_true rfl⟩ rfl rfl hv (fun w11 hv => ?_)
  refine e_astore (pc := 55) (i := 8) (lv' := [(0, vR a0), (1, vR a1), (2, vJ a2), (4, vI a4), (5, vR (wR w 2 1 a1)), (6, vI ((wI w 10 4 a0) + 1)), (7, vR q3), (8, vR q8)]) dX10_divide_55 (by decide) rfl ?_
  refine e_aload (pc := 57) (i := 5) dX10_divide_57 rfl ?_
  refine e_aload_n (pc := 59) (i := 1) dX10_divide_59 rfl rfl ?_
  refine e_aload (pc := 60) (i := 7) dX10_divide_60 rfl ?_
  refine e_aload (pc := 62) (i := 8) dX10_divide_62 rfl ?_
  have k15 := hv.1
  replace hv := hv.2
  refine e_callVv (pc := 64) (ci := 9) (st := []) (rc' := 0) (rs' := 0) (B' := bX9_replaceLeaf) [vR a1, vR q3, vR q8] dX10_divide_64 vRX10_213 kX9_replaceLeaf (by decide) rfl k15 rfl rfl (Nat.le_of_ble_eq_true rfl) ⟨Nat.le_of_ble_eq_true rfl, Nat.le_of_ble_eq_true rfl⟩ rfl rfl hv (fun w13 hv => ?_)
  refine e_aload_n (pc := 67) (i := 0) dX10_divide_67 rfl rfl ?_
  refine e_aload (pc := 68) (i := 7) dX10_divide_68 rfl ?_
  have k18 := hv.1
  replace hv := hv.2
  refine e_callVi (pc := 70) (ci := 10) (st := []) (rc' := 0) (rs' := 0) (B' := bX10_addEntry) [vR q3] dX10_divide_70 vRX10_112 kX10_addEntry (by decide) rfl k18 rfl rfl (Nat.le_of_ble_eq_true rfl) ⟨Nat.le_of_ble_eq_true rfl, Nat.le_of_ble_eq_true rfl⟩ rfl rfl hv (fun x17 w16 hv => ?_)
  refine e_pop (pc := 73) dX10_divide_73 rfl ?_
  refine e_aload_n (pc := 74) (i := 0) dX10_divide_74 rfl rfl ?_
  refine e_aload (pc := 75) (i := 8) dX10_divide_75 rfl ?_
  have k21 := hv.1
  replace hv := hv.2
  refine e_callVi (pc := 77) (ci := 10) (st := []) (rc' := 0) (rs' := 0) (B' := bX10_addEntry) [vR q8] dX10_divide_77 vRX10_112 kX10_addEntry (by decide) rfl k21 rfl rfl (Nat.le_of_ble_eq_true rfl) ⟨Nat.le_of_ble_eq_true rfl, Nat.le_of_ble_eq_true rfl⟩ rfl rfl hv (fun x20 w19 hv => ?_)
  refine e_pop (pc := 80) dX10_divide_80 rfl ?_
  refine e_iload (pc := 81) (i := 6) dX10_divide_81 rfl ?_
  exact e_ireturn (pc := 83) dX10_divide_83 rfl ⟨_, rfl, hv⟩
set_option maxRecDepth 100000 in
set_option maxHeartbeats 4000000 in
theorem oX10_post (X : Cx) (A : Int32 → Wd → Prop) (a0 : Nat) (a1 : Int32) (a2 : Int32) (a3 : Int64) (w : Wd)
    (hv : wK w a0 = 11 ∧ Ct X bX10_entryAt mX10_entryAt [vR a0, vI a1] w (qR fun x2 w1 => wK w1 a0 = 11 ∧ Ct X bX10_entryAt mX10_entryAt [vR a0, vI a2] w1 (qR fun x5 w4 => wK w4 a0 = 11 ∧ Ct X bX10_postFault mX10_postFault [vR a0, vR x2, vR x5, vJ a3] w4 (qI fun x8 w7 => wK w7 a0 = 11 ∧ Ct X bX10_settle mX10_settle [vR a0, vI x8] w7 (qI fun x11 w10 => ((x11 = 0) → A (-1) w10) ∧ ((¬ x11 = 0) → ((x2 = 0) → A (-1) w10) ∧ ((¬ x2 = 0) → ((¬ x5 = 0) → ∀ q16 : Nat, wK w10 q16 = 0 → q16 ≠ 0 → ∀ w17 : Wd, w17 = nO w10 5 q16 → wK w17 a0 = 11 ∧ Ct X bX10_newAct mX10_newAct [vR a0] w17 (qR fun x20 w19 => wK w19 q16 ≠ 0 ∧ Ct X bX5_init mX5_init [vR q16, vI ((wI w17 10 5 a0) + 1), vR x2, vR x5, vJ a3, vR x20] w19 (qV fun w21 => wK w21 a0 = 11 ∧ ((¬ (wR w21 10 7 a0) = 0) → wK w21 (wR w21 10 7 a0) = 6 ∧ ∀ w27 : Wd, w27 = sR w21 5 6 (wR w21 10 7 a0) q16 → ∀ w29 : Wd, w29 = sR w27 10 7 a0 q16 → ∀ w31 : Wd, w31 = sI w29 10 5 a0 ((wI w29 10 5 a0) + 1) → wK w31 q16 = 6 ∧ A (wI w31 5 0 q16) w31) ∧ (((wR w21 10 7 a0) = 0) → ∀ w33 : Wd, w33 = sR w21 10 6 a0 q16 → ∀ w35 : Wd, w35 = sR w33 10 7 a0 q16 → ∀ w37 : Wd, w37 = sI w35 10 5 a0 ((wI w35 10 5 a0) + 1) → wK w37 q16 = 6 ∧ A (wI w37 5 0 q16) w37)))) ∧ ((x5 = 0) → A (-1) w10)))))))) :
    Ct X bX10_post mX10_post [vR a0, vI a1, vI a2, vJ a3] w (qI A) := by
  refine Ct.of (lv := [(0, vR a0), (1, vI a1), (2, vI a2), (3, vJ a3)]) rfl (Nat.le_of_ble_eq_true rfl) rfl ?_
  refine e_aload_n (pc := 0) (i := 0) dX10_post_0 rfl rfl ?_
  refine e_iload_n (pc := 1) (i := 1) dX10_post_1 rfl rfl ?_
  have k3 := hv.1
  replace hv := hv.2
  refine e_callVr (pc := 2) (ci := 10) (st := []) (rc' := 2) (rs' := 9) (B' := bX10_entryAt) [vI a1] dX10_post_2 vRX10_133 kX10_entryAt (by decide) rfl k3 rfl rfl (Nat.le_of_ble_eq_true rfl) ⟨Nat.le_of_ble_eq_true rfl, Nat.le_of_ble_eq_true rfl⟩ rfl rfl hv (fun x2 w1 hv => ?_)
  refine e_astore (pc := 5) (i := 5) (lv' := [(0, vR a0), (1, vI a1), (2, vI a2), (3, vJ a3), (5, vR x2)]) dX10_post_5 (by decide) rfl ?_
  refine e_aload_n (pc := 7) (i := 0) dX10_post_7 rfl rfl ?_
  refine e_iload_n (pc := 8) (i := 2) dX10_post_8 rfl rfl ?_
  have k6 := hv.1
  replace hv := hv.2
  refine e_callVr (pc := 9) (ci := 10) (st := []) (rc' := 2) (rs' := 9) (B' := bX10_entryAt) [vI a2] dX10_post_9 vRX10_133 kX10_entryAt (by decide) rfl k6 rfl rfl (Nat.le_of_ble_eq_true rfl) ⟨Nat.le_of_ble_eq_true rfl, Nat.le_of_ble_eq_true rfl⟩ rfl rfl hv (fun x5 w4 hv => ?_)
  refine e_astore (pc := 12) (i := 6) (lv' := [(0, vR a0), (1, vI a1), (2, vI a2), (3, vJ a3), (5, vR x2), (6, vR x5)]) dX10_post_12 (by decide) rfl ?_
  refine e_aload_n (pc := 14) (i := 0) dX10_post_14 rfl rfl ?_
  refine e_aload_n (pc := 15) (i := 0) dX10_post_15 rfl rfl ?_
  refine e_aload (pc := 16) (i := 5) dX10_post_16 rfl ?_
  refine e_aload (pc := 18) (i := 6) dX10_post_18 rfl ?_
  refine e_lload_n (pc := 20) (i := 3) dX10_post_20 rfl rfl ?_
  have k9 := hv.1
  replace hv := hv.2
  refine e_callVi (pc := 21) (ci := 10) (st := [vR a0]) (rc' := 2) (rs' := 9) (B' := bX10_postFault) [vR x2, vR x5, vJ a3] dX10_post_21 vRX10_217 kX10_postFault (by decide) rfl k9 rfl rfl (Nat.le_of_ble_eq_true rfl) ⟨Nat.le_of_ble_eq_true rfl, Nat.le_of_ble_eq_true rfl⟩ rfl rfl hv (fun x8 w7 hv => ?_)
  have k12 := hv.1
  replace hv := hv.2
  refine e_callVi (pc := 24) (ci := 10) (st := []) (rc' := 2) (rs' := 9) (B' := bX10_settle) [vI x8] dX10_post_24 vRX10_41 kX10_settle (by decide) rfl k12 rfl rfl (Nat.le_of_ble_eq_true rfl) ⟨Nat.le_of_ble_eq_true rfl, Nat.le_of_ble_eq_true rfl⟩ rfl rfl hv (fun x11 w10 hv => ?_)
  refine e_if_eq (pc := 27) (tgt := 40) dX10_post_27 (by decide) (fun h13 => ?_) (fun h13 => ?_)
  · replace hv := hv.1 h13
    refine e_iconst (pc := 40) (v := (-1)) dX10_post_40 (by decide) ?_
    exact e_ireturn (pc := 41) dX10_post_41 rfl ⟨_, rfl, hv⟩
  · replace hv := hv.2 h13
    refine e_aload (pc := 30) (i := 5) dX10_post_30 rfl ?_
    refine e_ifnull (pc := 32) (tgt := 40) dX10_post_32 (by decide) (fun h14 => ?_) (fun h14 => ?_)
    · replace hv := hv.1 h14
      refine e_iconst (pc := 40) (v := (-1)) dX10_post_40 (by decide) ?_
      exact e_ireturn (pc := 41) dX10_post_41 rfl ⟨_, rfl, hv⟩
    · replace hv := hv.2 h14
      refine e_aload (pc := 35) (i := 6) dX10_post_35 rfl ?_
      refine e_ifnonnull (pc := 37) (tgt := 42) dX10_post_37 (by decide) (fun h15 => ?_) (fun h15 => ?_)
      · replace hv := hv.1 h15
        refine e_new (pc := 42) (ci := 5) (rc' := 1) (rs' := 2) dX10_post_42 (by decide) (tb_a3 52 (by decide +kernel) rfl) dv5 rfl rfl (fun q16 hq16 nq16 => ?_)
        obtain ⟨w17, hw17⟩ : ∃ w17 : Wd, w17 = nO w10 5 q16 := ⟨_, rfl⟩
        replace hv := hv q16 hq16 nq16 w17 hw17
        rw [← hw17]
        refine e_dup (pc := 45) dX10_post_45 rfl ?_
        refine e_aload_n (pc := 46) (i := 0) dX10_post_46 rfl rfl ?_
        have k18 := hv.1
        replace hv := hv.2
        refine e_getI (pc := 47) dX10_post_47 fRX10_223 rfl k18 ?_
        refine e_iconst (pc := 50) (v := 1) dX10_post_50 (by decide) ?_
        refine e_iadd (pc := 51) dX10_post_51 ?_
        refine e_aload (pc := 52) (i := 5) dX10_post_52 rfl ?_
        refine e_aload (pc := 54) (i := 6) dX10_post_54 rfl ?_
        refine e_lload_n (pc := 56) (i := 3) dX10_post_56 rfl rfl ?_
        refine e_aload_n (pc := 57) (i := 0) dX10_post_57 rfl rfl ?_
        refine e_callVr (pc := 58) (ci := 10) (st := [vJ a3, vR x5, vR x2, vI ((wI w17 10 5 a0) + 1), vR q16, vR q16]) (rc' := 0) (rs' := 0) (B' := bX10_newAct) [] dX10_post_58 vRX10_79 kX10_newAct (by decide) rfl k18 rfl rfl (Nat.le_of_ble_eq_true rfl) ⟨Nat.le_of_ble_eq_true rfl, Nat.le_of_ble_eq_true rfl⟩ rfl rfl hv (fun x20 w19 hv => ?_)
        have k23 := hv.1
        replace hv := hv.2
        refine e_callIv (pc := 61) (st := [vR q16]) (rc' := 0) (rs' := 0) (B' := bX5_init) [vI ((wI w17 10 5 a0) + 1), vR x2, vR x5, vJ a3, vR x20] dX10_post_61 vRX10_226 kX5_init rfl rfl k23 rfl rfl (Nat.le_of_ble_eq_true rfl) ⟨Nat.le_of_ble_eq_true rfl, Nat.le_of_ble_eq_true rfl⟩ rfl rfl hv (fun w21 hv => ?_)
        refine e_astore (pc := 64) (i := 7) (lv' := [(0, vR a0), (1, vI a1), (2, vI a2), (3, vJ a3), (5, vR x2), (6, vR x5), (7, vR q16)]) dX10_post_64 (by decide) rfl ?_
        refine e_aload_n (pc := 66) (i := 0) dX10_post_66 rfl rfl ?_
        have k24 := hv.1
        replace hv := hv.2
        refine e_getR (pc := 67) dX10_post_67 fRX10_229 rfl k24 ?_
        refine e_ifnonnull (pc := 70) (tgt := 82) dX10_post_70 (by decide) (fun h25 => ?_) (fun h25 => ?_)
        · replace hv := hv.1 h25
          refine e_aload_n (pc := 82) (i := 0) dX10_post_82 rfl rfl ?_
          refine e_getR (pc := 83) dX10_post_83 fRX10_229 rfl k24 ?_
          refine e_aload (pc := 86) (i := 7) dX10_post_86 rfl ?_
          have k26 := hv.1
          replace hv := hv.2
          obtain ⟨w27, hw27⟩ : ∃ w27 : Wd, w27 = sR w21 5 6 (wR w21 10 7 a0) q16 := ⟨_, rfl⟩
          replace hv := hv w27 hw27
          refine e_putR (pc := 88) dX10_post_88 fRX10_236 (Or.inl rfl) rfl k26 ?_
          rw [← hw27]
          refine e_aload_n (pc := 91) (i := 0) dX10_post_91 rfl rfl ?_
          refine e_aload (pc := 92) (i := 7) dX10_post_92 rfl ?_
          have k28 : wK w27 a0 = 11 := (by rw [hw27]; exact k24)
          obtain ⟨w29, hw29⟩ : ∃ w29 : Wd, w29 = sR w27 10 7 a0 q16 := ⟨_, rfl⟩
          replace hv := hv w29 hw29
          refine e_putR (pc := 94) dX10_post_94 fRX10_229 (Or.inl rfl) rfl k28 ?_
          rw [← hw29]
          refine e_aload_n (pc := 97) (i := 0) dX10_post_97 rfl rfl ?_
          refine e_dup (pc := 98) dX10_post_98 rfl ?_
          have k30 : wK w29 a0 = 11 := (by rw [hw29]; exact k28)
          refine e_getI (pc := 99) dX10_post_99 fRX10_223 rfl k30 ?_
          refine e_iconst (pc := 102) (v := 1) dX10_post_102 (by decide) ?_
          refine e_iadd (pc := 103) dX10_post_103 ?_
          obtain ⟨w31, hw31⟩ : ∃ w31 : Wd, w31 = sI w29 10 5 a0 ((wI w29 10 5 a0) + 1) := ⟨_, rfl⟩
          replace hv := hv w31 hw31
          refine e_putI (pc := 104) dX10_post_104 fRX10_223 (Or.inl rfl) rfl k30 ?_
          rw [← hw31]
          refine e_aload (pc := 107) (i := 7) dX10_post_107 rfl ?_
          have k32 := hv.1
          replace hv := hv.2
          refine e_getI (pc := 109) dX10_post_109 fRX10_239 rfl k32 ?_
          exact e_ireturn (pc := 112) dX10_post_112 rfl ⟨_, rfl, hv⟩
        · replace hv := hv.2 h25
          refine e_aload_n (pc := 73) (i := 0) dX10_post_73 rfl rfl ?_
          refine e_aload (pc := 74) (i := 7) dX10_post_74 rfl ?_
          obtain ⟨w33, hw33⟩ : ∃ w33 : Wd, w33 = sR w21 10 6 a0 q16 := ⟨_, rfl⟩
          replace hv := hv w33 hw33
          refine e_putR (pc := 76) dX10_post_76 fRX10_233 (Or.inl rfl) rfl k24 ?_
          rw [← hw33]
          refine e_goto (pc := 79) (tgt := 91) dX10_post_79 (by decide) ?_
          refine e_aload_n (pc := 91) (i := 0) dX10_post_91 rfl rfl ?_
          refine e_aload (pc := 92) (i := 7) dX10_post_92 rfl ?_
          have k34 : wK w33 a0 = 11 := (by rw [hw33]; exact k24)
          obtain ⟨w35, hw35⟩ : ∃ w35 : Wd, w35 = sR w33 10 7 a0 q16 := ⟨_, rfl⟩
          replace hv := hv w35 hw35
          refine e_putR (pc := 94) dX10_post_94 fRX10_229 (Or.inl rfl) rfl k34 ?_
          rw [← hw35]
          refine e_aload_n (pc := 97) (i := 0) dX10_post_97 rfl rfl ?_
          refine e_dup (pc := 98) dX10_post_98 rfl ?_
          have k36 : wK w35 a0 = 11 := (by rw [hw35]; exact k34)
          refine e_getI (pc := 99) dX10_post_99 fRX10_223 rfl k36 ?_
          refine e_iconst (pc := 102) (v := 1) dX10_post_102 (by decide) ?_
          refine e_iadd (pc := 103) dX10_post_103 ?_
          obtain ⟨w37, hw37⟩ : ∃ w37 : Wd, w37 = sI w35 10 5 a0 ((wI w35 10 5 a0) + 1) := ⟨_, rfl⟩
          replace hv := hv w37 hw37
          refine e_putI (pc := 104) dX10_post_104 fRX10_223 (Or.inl rfl) rfl k36 ?_
          rw [← hw37]
          refine e_aload (pc := 107) (i := 7) dX10_post_107 rfl ?_
          have k38 := hv.1
          replace hv := hv.2
          refine e_getI (pc := 109) dX10_post_109 fRX10_239 rfl k38 ?_
          exact e_ireturn (pc := 112) dX10_post_112 rfl ⟨_, rfl, hv⟩
      · replace hv := hv.2 h15
        refine e_iconst (pc := 40) (v := (-1)) dX10_post_40 (by decide) ?_
        exact e_ireturn (pc := 41) dX10_post_41 rfl ⟨_, rfl, hv⟩
set_option maxRecDepth 100000 in
set_option maxHeartbeats 4000000 in
theorem oX10_postFault (X : Cx) (A : Int32 → Wd → Prop) (a0 : Nat) (a1 : Nat) (a2 : Nat) (a3 : Int64) (w : Wd)
    (hv : ((a1 = 0) → A 1 w) ∧ ((¬ a1 = 0) → ((¬ a2 = 0) → wK w a1 = 3 ∧ wK w a2 = 3 ∧ wK w (wR w 2 1 a1) = 10 ∧ wK w (wR w 9 3 (wR w 2 1 a1)) = 9 ∧ (((wI w 8 0 (wR w 9 3 (wR w 2 1 a1))) = 6) → A 4 w) ∧ ((¬ (wI w 8 0 (wR w 9 3 (wR w 2 1 a1))) = 6) → wK w (wR w 2 1 a2) = 10 ∧ wK w (wR w 9 3 (wR w 2 1 a2)) = 9 ∧ ((¬ (wI w 8 0 (wR w 9 3 (wR w 2 1 a2))) = 6) → Ct X bX10_isSum mX10_isSum [vJ a3] w (qI fun x12 w11 => ((x12 = 0) → A 5 w11) ∧ ((¬ x12 = 0) → ((¬ (wR w 2 1 a1) = (wR w 2 1 a2)) → wK w11 a0 = 11 ∧ Ct X bX10_liveInOneFolio mX10_liveInOneFolio [vR a0, vR (wR w 2 1 a1), vR (wR w 2 1 a2)] w11 (qI fun x16 w15 => ((¬ x16 = 0) → wK w15 a0 = 11 ∧ wK w15 (wR w15 10 2 a0) = 2 ∧ Ct X bX1_closedBy mX1_closedBy [vR (wR w15 10 2 a0), vR (wR w 2 1 a1), vR (wR w 2 1 a2), vR (wR w15 10 6 a0)] w15 (qI fun x21 w20 => ((x21 = 0) → wK w20 a0 = 11 ∧ (((wI w20 10 5 a0) < 100) → A 0 w20) ∧ ((¬ (wI w20 10 5 a0) < 100) → A 10 w20)) ∧ ((¬ x21 = 0) → A 9 w20))) ∧ ((x16 = 0) → A 6 w15))) ∧ (((wR w 2 1 a1) = (wR w 2 1 a2)) → A 5 w11)))) ∧ (((wI w 8 0 (wR w 9 3 (wR w 2 1 a2))) = 6) → A 4 w))) ∧ ((a2 = 0) → A 1 w))) :
    Ct X bX10_postFault mX10_postFault [vR a0, vR a1, vR a2, vJ a3] w (qI A) := by
  refine Ct.of (lv := [(0, vR a0), (1, vR a1), (2, vR a2), (3, vJ a3)]) rfl (Nat.le_of_ble_eq_true rfl) rfl ?_
  refine e_aload_n (pc := 0) (i := 1) dX10_postFault_0 rfl rfl ?_
  refine e_ifnull (pc := 1) (tgt := 8) dX10_postFault_1 (by decide) (fun h1 => ?_) (fun h1 => ?_)
  · replace hv := hv.1 h1
    refine e_iconst (pc := 8) (v := 1) dX10_postFault_8 (by decide) ?_
    exact e_ireturn (pc := 9) dX10_postFault_9 rfl ⟨_, rfl, hv⟩
  · replace hv := hv.2 h1
    refine e_aload_n (pc := 4) (i := 2) dX10_postFault_4 rfl rfl ?_
    refine e_ifnonnull (pc := 5) (tgt := 10) dX10_postFault_5 (by decide) (fun h2 => ?_) (fun h2 => ?_)
    · replace hv := hv.1 h2
      refine e_aload_n (pc := 10) (i := 1) dX10_postFault_10 rfl rfl ?_
      have k3 := hv.1
      replace hv := hv.2
      refine e_getR (pc := 11) dX10_postFault_11 fRX10_141 rfl k3 ?_
      refine e_astore (pc := 14) (i := 5) (lv' := [(0, vR a0), (1, vR a1), (2, vR a2), (3, vJ a3), (5, vR (wR w 2 1 a1))]) dX10_postFault_14 (by decide) rfl ?_
      refine e_aload_n (pc := 16) (i := 2) dX10_postFault_16 rfl rfl ?_
      have k4 := hv.1
      replace hv := hv.2
      refine e_getR (pc := 17) dX10_postFault_17 fRX10_141 rfl k4 ?_
      refine e_astore (pc := 20) (i := 6) (lv' := [(0, vR a0), (1, vR a1), (2, vR a2), (3, vJ a3), (5, vR (wR w 2 1 a1)), (6, vR (wR w 2 1 a2))]) dX10_postFault_20 (by decide) rfl ?_
      refine e_aload (pc := 22) (i := 5) dX10_postFault_22 rfl ?_
      have k5 := hv.1
      replace hv := hv.2
      refine e_getR (pc := 24) dX10_postFault_24 fRX10_145 rfl k5 ?_
      have k6 := hv.1
      replace hv := hv.2
      refine e_getI (pc := 27) dX10_postFault_27 fRX10_157 rfl k6 ?_
      refine e_bipush (pc := 30) (v := 6) dX10_postFault_30 (by decide) ?_
      refine e_icmp_eq (pc := 32) (tgt := 48) dX10_postFault_32 (by decide) (fun h7 => ?_) (fun h7 => ?_)
      · replace hv := hv.1 h7
        refine e_iconst (pc := 48) (v := 4) dX10_postFault_48 (by decide) ?_
        exact e_ireturn (pc := 49) dX10_postFault_49 rfl ⟨_, rfl, hv⟩
      · replace hv := hv.2 h7
        refine e_aload (pc := 35) (i := 6) dX10_postFault_35 rfl ?_
        have k8 := hv.1
        replace hv := hv.2
        refine e_getR (pc := 37) dX10_postFault_37 fRX10_145 rfl k8 ?_
        have k9 := hv.1
        replace hv := hv.2
        refine e_getI (pc := 40) dX10_postFault_40 fRX10_157 rfl k9 ?_
        refine e_bipush (pc := 43) (v := 6) dX10_postFault_43 (by decide) ?_
        refine e_icmp_ne (pc := 45) (tgt := 50) dX10_postFault_45 (by decide) (fun h10 => ?_) (fun h10 => ?_)
        · replace hv := hv.1 h10
          refine e_lload_n (pc := 50) (i := 3) dX10_postFault_50 rfl rfl ?_
          refine e_callSi (pc := 51) (st := []) (rc' := 0) (rs' := 0) (B' := bX10_isSum) [vJ a3] dX10_postFault_51 vRX10_126 kX10_isSum rfl rfl (Nat.le_of_ble_eq_true rfl) ⟨Nat.le_of_ble_eq_true rfl, Nat.le_of_ble_eq_true rfl⟩ rfl rfl hv (fun x12 w11 hv => ?_)
          refine e_if_eq (pc := 54) (tgt := 64) dX10_postFault_54 (by decide) (fun h13 => ?_) (fun h13 => ?_)
          · replace hv := hv.1 h13
            refine e_iconst (pc := 64) (v := 5) dX10_postFault_64 (by decide) ?_
            exact e_ireturn (pc := 65) dX10_postFault_65 rfl ⟨_, rfl, hv⟩
          · replace hv := hv.2 h13
            refine e_aload (pc := 57) (i := 5) dX10_postFault_57 rfl ?_
            refine e_aload (pc := 59) (i := 6) dX10_postFault_59 rfl ?_
            refine e_acmp_ne (pc := 61) (tgt := 66) dX10_postFault_61 (by decide) (fun h14 => ?_) (fun h14 => ?_)
            · replace hv := hv.1 h14
              refine e_aload_n (pc := 66) (i := 0) dX10_postFault_66 rfl rfl ?_
              refine e_aload (pc := 67) (i := 5) dX10_postFault_67 rfl ?_
              refine e_aload (pc := 69) (i := 6) dX10_postFault_69 rfl ?_
              have k17 := hv.1
              replace hv := hv.2
              refine e_callVi (pc := 71) (ci := 10) (st := []) (rc' := 0) (rs' := 0) (B' := bX10_liveInOneFolio) [vR (wR w 2 1 a1), vR (wR w 2 1 a2)] dX10_postFault_71 vRX10_242 kX10_liveInOneFolio (by decide) rfl k17 rfl rfl (Nat.le_of_ble_eq_true rfl) ⟨Nat.le_of_ble_eq_true rfl, Nat.le_of_ble_eq_true rfl⟩ rfl rfl hv (fun x16 w15 hv => ?_)
              refine e_if_ne (pc := 74) (tgt := 80) dX10_postFault_74 (by decide) (fun h18 => ?_) (fun h18 => ?_)
              · replace hv := hv.1 h18
                refine e_aload_n (pc := 80) (i := 0) dX10_postFault_80 rfl rfl ?_
                have k19 := hv.1
                replace hv := hv.2
                refine e_getR (pc := 81) dX10_postFault_81 fRX10_24 rfl k19 ?_
                refine e_aload (pc := 84) (i := 5) dX10_postFault_84 rfl ?_
                refine e_aload (pc := 86) (i := 6) dX10_postFault_86 rfl ?_
                refine e_aload_n (pc := 88) (i := 0) dX10_postFault_88 rfl rfl ?_
                refine e_getR (pc := 89) dX10_postFault_89 fRX10_233 rfl k19 ?_
                have k22 := hv.1
                replace hv := hv.2
                refine e_callVi (pc := 92) (ci := 1) (st := []) (rc' := 0) (rs' := 0) (B' := bX1_closedBy) [vR (wR w 2 1 a1), vR (wR w 2 1 a2), vR (wR w15 10 6 a0)] dX10_postFault_92 vRX10_246 kX1_closedBy (by decide) rfl k22 rfl rfl (Nat.le_of_ble_eq_true rfl) ⟨Nat.le_of_ble_eq_true rfl, Nat.le_of_ble_eq_true rfl⟩ rfl rfl hv (fun x21 w20 hv => ?_)
                refine e_if_eq (pc := 95) (tgt := 101) dX10_postFault_95 (by decide) (fun h23 => ?_) (fun h23 => ?_)
                · replace hv := hv.1 h23
                  refine e_aload_n (pc := 101) (i := 0) dX10_postFault_101 rfl rfl ?_
                  have k24 := hv.1
                  replace hv := hv.2
                  refine e_getI (pc := 102) dX10_postFault_102 fRX10_223 rfl k24 ?_
                  refine e_bipush (pc := 105) (v := 100) dX10_postFault_105 (by decide) ?_
                  refine e_icmp_lt (pc := 107) (tgt := 115) dX10_postFault_107 (by decide) (fun h25 => ?_) (fun h25 => ?_)
                  · replace hv := hv.1 h25
                    refine e_iconst (pc := 115) (v := 0) dX10_postFault_115 (by decide) ?_
                    exact e_ireturn (pc := 116) dX10_postFault_116 rfl ⟨_, rfl, hv⟩
                  · replace hv := hv.2 h25
                    refine e_bipush (pc := 110) (v := 10) dX10_postFault_110 (by decide) ?_
                    refine e_goto (pc := 112) (tgt := 116) dX10_postFault_112 (by decide) ?_
                    exact e_ireturn (pc := 116) dX10_postFault_116 rfl ⟨_, rfl, hv⟩
                · replace hv := hv.2 h23
                  refine e_bipush (pc := 98) (v := 9) dX10_postFault_98 (by decide) ?_
                  exact e_ireturn (pc := 100) dX10_postFault_100 rfl ⟨_, rfl, hv⟩
              · replace hv := hv.2 h18
                refine e_bipush (pc := 77) (v := 6) dX10_postFault_77 (by decide) ?_
                exact e_ireturn (pc := 79) dX10_postFault_79 rfl ⟨_, rfl, hv⟩
            · replace hv := hv.2 h14
              refine e_iconst (pc := 64) (v := 5) dX10_postFault_64 (by decide) ?_
              exact e_ireturn (pc := 65) dX10_postFault_65 rfl ⟨_, rfl, hv⟩
        · replace hv := hv.2 h10
          refine e_iconst (pc := 48) (v := 4) dX10_postFault_48 (by decide) ?_
          exact e_ireturn (pc := 49) dX10_postFault_49 rfl ⟨_, rfl, hv⟩
    · replace hv := hv.2 h2
      refine e_iconst (pc := 8) (v := 1) dX10_postFault_8 (by decide) ?_
      exact e_ireturn (pc := 9) dX10_postFault_9 rfl ⟨_, rfl, hv⟩
set_option maxRecDepth 100000 in
set_option maxHeartbeats 4000000 in
theorem oX10_undo (X : Cx) (A : Int32 → Wd → Prop) (a0 : Nat) (a1 : Int32) (w : Wd)
    (hv : wK w a0 = 11 ∧ Ct X bX10_postAt mX10_postAt [vR a0, vI a1] w (qR fun x2 w1 => Ct X bX10_undoFault mX10_undoFault [vR x2] w1 (qI fun x5 w4 => wK w4 a0 = 11 ∧ Ct X bX10_settle mX10_settle [vR a0, vI x5] w4 (qI fun x7 w6 => ((x7 = 0) → A 0 w6) ∧ ((¬ x7 = 0) → ((¬ x2 = 0) → wK w6 a0 = 11 ∧ Ct X bX10_newAct mX10_newAct [vR a0] w6 (qR fun x12 w11 => wK w11 x2 = 6 ∧ ∀ w15 : Wd, w15 = sR w11 5 5 x2 x12 → A 1 w15)) ∧ ((x2 = 0) → A 0 w6)))))) :
    Ct X bX10_undo mX10_undo [vR a0, vI a1] w (qI A) := by
  refine Ct.of (lv := [(0, vR a0), (1, vI a1)]) rfl (Nat.le_of_ble_eq_true rfl) rfl ?_
  refine e_aload_n (pc := 0) (i := 0) dX10_undo_0 rfl rfl ?_
  refine e_iload_n (pc := 1) (i := 1) dX10_undo_1 rfl rfl ?_
  have k3 := hv.1
  replace hv := hv.2
  refine e_callVr (pc := 2) (ci := 10) (st := []) (rc' := 1) (rs' := 2) (B' := bX10_postAt) [vI a1] dX10_undo_2 vRX10_250 kX10_postAt (by decide) rfl k3 rfl rfl (Nat.le_of_ble_eq_true rfl) ⟨Nat.le_of_ble_eq_true rfl, Nat.le_of_ble_eq_true rfl⟩ rfl rfl hv (fun x2 w1 hv => ?_)
  refine e_astore_n (pc := 5) (i := 2) (lv' := [(0, vR a0), (1, vI a1), (2, vR x2)]) dX10_undo_5 rfl (by decide) rfl ?_
  refine e_aload_n (pc := 6) (i := 0) dX10_undo_6 rfl rfl ?_
  refine e_aload_n (pc := 7) (i := 2) dX10_undo_7 rfl rfl ?_
  refine e_callSi (pc := 8) (st := [vR a0]) (rc' := 1) (rs' := 2) (B' := bX10_undoFault) [vR x2] dX10_undo_8 vRX10_254 kX10_undoFault rfl rfl (Nat.le_of_ble_eq_true rfl) ⟨Nat.le_of_ble_eq_true rfl, Nat.le_of_ble_eq_true rfl⟩ rfl rfl hv (fun x5 w4 hv => ?_)
  have k8 := hv.1
  replace hv := hv.2
  refine e_callVi (pc := 11) (ci := 10) (st := []) (rc' := 1) (rs' := 2) (B' := bX10_settle) [vI x5] dX10_undo_11 vRX10_41 kX10_settle (by decide) rfl k8 rfl rfl (Nat.le_of_ble_eq_true rfl) ⟨Nat.le_of_ble_eq_true rfl, Nat.le_of_ble_eq_true rfl⟩ rfl rfl hv (fun x7 w6 hv => ?_)
  refine e_if_eq (pc := 14) (tgt := 21) dX10_undo_14 (by decide) (fun h9 => ?_) (fun h9 => ?_)
  · replace hv := hv.1 h9
    refine e_iconst (pc := 21) (v := 0) dX10_undo_21 (by decide) ?_
    exact e_zreturn (pc := 22) dX10_undo_22 rfl (Or.inl rfl) ⟨_, rfl, hv⟩
  · replace hv := hv.2 h9
    refine e_aload_n (pc := 17) (i := 2) dX10_undo_17 rfl rfl ?_
    refine e_ifnonnull (pc := 18) (tgt := 23) dX10_undo_18 (by decide) (fun h10 => ?_) (fun h10 => ?_)
    · replace hv := hv.1 h10
      refine e_aload_n (pc := 23) (i := 2) dX10_undo_23 rfl rfl ?_
      refine e_aload_n (pc := 24) (i := 0) dX10_undo_24 rfl rfl ?_
      have k13 := hv.1
      replace hv := hv.2
      refine e_callVr (pc := 25) (ci := 10) (st := [vR x2]) (rc' := 0) (rs' := 0) (B' := bX10_newAct) [] dX10_undo_25 vRX10_79 kX10_newAct (by decide) rfl k13 rfl rfl (Nat.le_of_ble_eq_true rfl) ⟨Nat.le_of_ble_eq_true rfl, Nat.le_of_ble_eq_true rfl⟩ rfl rfl hv (fun x12 w11 hv => ?_)
      have k14 := hv.1
      replace hv := hv.2
      obtain ⟨w15, hw15⟩ : ∃ w15 : Wd, w15 = sR w11 5 5 x2 x12 := ⟨_, rfl⟩
      replace hv := hv w15 hw15
      refine e_putR (pc := 28) dX10_undo_28 fRX10_258 (Or.inl rfl) rfl k14 ?_
      rw [← hw15]
      refine e_iconst (pc := 31) (v := 1) dX10_undo_31 (by decide) ?_
      exact e_zreturn (pc := 32) dX10_undo_32 rfl (Or.inr rfl) ⟨_, rfl, hv⟩
    · replace hv := hv.2 h10
      refine e_iconst (pc := 21) (v := 0) dX10_undo_21 (by decide) ?_
      exact e_zreturn (pc := 22) dX10_undo_22 rfl (Or.inl rfl) ⟨_, rfl, hv⟩
set_option maxRecDepth 100000 in
set_option maxHeartbeats 4000000 in
theorem oX10_undoFault (X : Cx) (A : Int32 → Wd → Prop) (a0 : Nat) (w : Wd)
    (hv : ((¬ a0 = 0) → wK w a0 = 6 ∧ (((wR w 5 5 a0) = 0) → A 0 w) ∧ ((¬ (wR w 5 5 a0) = 0) → A 8 w)) ∧ ((a0 = 0) → A 1 w)) :
    Ct X bX10_undoFault mX10_undoFault [vR a0] w (qI A) := by
  refine Ct.of (lv := [(0, vR a0)]) rfl (Nat.le_of_ble_eq_true rfl) rfl ?_
  refine e_aload_n (pc := 0) (i := 0) dX10_undoFault_0 rfl rfl ?_
  refine e_ifnonnull (pc := 1) (tgt := 6) dX10_undoFault_1 (by decide) (fun h1 => ?_) (fun h1 => ?_)
  · replace hv := hv.1 h1
    refine e_aload_n (pc := 6) (i := 0) dX10_undoFault_6 rfl rfl ?_
    have k2 := hv.1
    replace hv := hv.2
    refine e_getR (pc := 7) dX10_undoFault_7 fRX10_258 rfl k2 ?_
    refine e_ifnull (pc := 10) (tgt := 18) dX10_undoFault_10 (by decide) (fun h3 => ?_) (fun h3 => ?_)
    · replace hv := hv.1 h3
      refine e_iconst (pc := 18) (v := 0) dX10_undoFault_18 (by decide) ?_
      exact e_ireturn (pc := 19) dX10_undoFault_19 rfl ⟨_, rfl, hv⟩
    · replace hv := hv.2 h3
      refine e_bipush (pc := 13) (v := 8) dX10_undoFault_13 (by decide) ?_
      refine e_goto (pc := 15) (tgt := 19) dX10_undoFault_15 (by decide) ?_
      exact e_ireturn (pc := 19) dX10_undoFault_19 rfl ⟨_, rfl, hv⟩
  · replace hv := hv.2 h1
    refine e_iconst (pc := 4) (v := 1) dX10_undoFault_4 (by decide) ?_
    exact e_ireturn (pc := 5) dX10_undoFault_5 rfl ⟨_, rfl, hv⟩
set_option maxRecDepth 100000 in
set_option maxHeartbeats 4000000 in
theorem oX10_release (X : Cx) (A : Int32 → Wd → Prop) (a0 : Nat) (a1 : Int32) (a2 : Int32) (w : Wd)
    (hv : wK w a0 = 11 ∧ Ct X bX10_entryAt mX10_entryAt [vR a0, vI a1] w (qR fun x2 w1 => wK w1 a0 = 11 ∧ Ct X bX10_lieFault mX10_lieFault [vR a0, vR x2, vI a2] w1 (qI fun x5 w4 => wK w4 a0 = 11 ∧ Ct X bX10_settle mX10_settle [vR a0, vI x5] w4 (qI fun x8 w7 => ((x8 = 0) → A 0 w7) ∧ ((¬ x8 = 0) → ((¬ x2 = 0) → wK w7 a0 = 11 ∧ Ct X bX10_newAct mX10_newAct [vR a0] w7 (qR fun x13 w12 => wK w12 x2 = 3 ∧ Ct X bX2_recordRelease mX2_recordRelease [vR x2, vI a2, vR x13] w12 (qV fun w15 => A 1 w15))) ∧ ((x2 = 0) → A 0 w7)))))) :
    Ct X bX10_release mX10_release [vR a0, vI a1, vI a2] w (qI A) := by
  refine Ct.of (lv := [(0, vR a0), (1, vI a1), (2, vI a2)]) rfl (Nat.le_of_ble_eq_true rfl) rfl ?_
  refine e_aload_n (pc := 0) (i := 0) dX10_release_0 rfl rfl ?_
  refine e_iload_n (pc := 1) (i := 1) dX10_release_1 rfl rfl ?_
  have k3 := hv.1
  replace hv := hv.2
  refine e_callVr (pc := 2) (ci := 10) (st := []) (rc' := 2) (rs' := 62) (B' := bX10_entryAt) [vI a1] dX10_release_2 vRX10_133 kX10_entryAt (by decide) rfl k3 rfl rfl (Nat.le_of_ble_eq_true rfl) ⟨Nat.le_of_ble_eq_true rfl, Nat.le_of_ble_eq_true rfl⟩ rfl rfl hv (fun x2 w1 hv => ?_)
  refine e_astore_n (pc := 5) (i := 3) (lv' := [(0, vR a0), (1, vI a1), (2, vI a2), (3, vR x2)]) dX10_release_5 rfl (by decide) rfl ?_
  refine e_aload_n (pc := 6) (i := 0) dX10_release_6 rfl rfl ?_
  refine e_aload_n (pc := 7) (i := 0) dX10_release_7 rfl rfl ?_
  refine e_aload_n (pc := 8) (i := 3) dX10_release_8 rfl rfl ?_
  refine e_iload_n (pc := 9) (i := 2) dX10_release_9 rfl rfl ?_
  have k6 := hv.1
  replace hv := hv.2
  refine e_callVi (pc := 10) (ci := 10) (st := [vR a0]) (rc' := 2) (rs' := 62) (B' := bX10_lieFault) [vR x2, vI a2] dX10_release_10 vRX10_261 kX10_lieFault (by decide) rfl k6 rfl rfl (Nat.le_of_ble_eq_true rfl) ⟨Nat.le_of_ble_eq_true rfl, Nat.le_of_ble_eq_true rfl⟩ rfl rfl hv (fun x5 w4 hv => ?_)
  have k9 := hv.1
  replace hv := hv.2
  refine e_callVi (pc := 13) (ci := 10) (st := []) (rc' := 2) (rs' := 62) (B' := bX10_settle) [vI x5] dX10_release_13 vRX10_41 kX10_settle (by decide) rfl k9 rfl rfl (Nat.le_of_ble_eq_true rfl) ⟨Nat.le_of_ble_eq_true rfl, Nat.le_of_ble_eq_true rfl⟩ rfl rfl hv (fun x8 w7 hv => ?_)
  refine e_if_eq (pc := 16) (tgt := 23) dX10_release_16 (by decide) (fun h10 => ?_) (fun h10 => ?_)
  · replace hv := hv.1 h10
    refine e_iconst (pc := 23) (v := 0) dX10_release_23 (by decide) ?_
    exact e_zreturn (pc := 24) dX10_release_24 rfl (Or.inl rfl) ⟨_, rfl, hv⟩
  · replace hv := hv.2 h10
    refine e_aload_n (pc := 19) (i := 3) dX10_release_19 rfl rfl ?_
    refine e_ifnonnull (pc := 20) (tgt := 25) dX10_release_20 (by decide) (fun h11 => ?_) (fun h11 => ?_)
    · replace hv := hv.1 h11
      refine e_aload_n (pc := 25) (i := 3) dX10_release_25 rfl rfl ?_
      refine e_iload_n (pc := 26) (i := 2) dX10_release_26 rfl rfl ?_
      refine e_aload_n (pc := 27) (i := 0) dX10_release_27 rfl rfl ?_
      have k14 := hv.1
      replace hv := hv.2
      refine e_callVr (pc := 28) (ci := 10) (st := [vI a2, vR x2]) (rc' := 1) (rs' := 60) (B' := bX10_newAct) [] dX10_release_28 vRX10_79 kX10_newAct (by decide) rfl k14 rfl rfl (Nat.le_of_ble_eq_true rfl) ⟨Nat.le_of_ble_eq_true rfl, Nat.le_of_ble_eq_true rfl⟩ rfl rfl hv (fun x13 w12 hv => ?_)
      have k17 := hv.1
      replace hv := hv.2
      refine e_callVv (pc := 31) (ci := 2) (st := []) (rc' := 0) (rs' := 0) (B' := bX2_recordRelease) [vI a2, vR x13] dX10_release_31 vRX10_265 kX2_recordRelease (by decide) rfl k17 rfl rfl (Nat.le_of_ble_eq_true rfl) ⟨Nat.le_of_ble_eq_true rfl, Nat.le_of_ble_eq_true rfl⟩ rfl rfl hv (fun w15 hv => ?_)
      refine e_iconst (pc := 34) (v := 1) dX10_release_34 (by decide) ?_
      exact e_zreturn (pc := 35) dX10_release_35 rfl (Or.inr rfl) ⟨_, rfl, hv⟩
    · replace hv := hv.2 h11
      refine e_iconst (pc := 23) (v := 0) dX10_release_23 (by decide) ?_
      exact e_zreturn (pc := 24) dX10_release_24 rfl (Or.inl rfl) ⟨_, rfl, hv⟩
set_option maxRecDepth 100000 in
set_option maxHeartbeats 4000000 in
theorem oX10_strike (X : Cx) (A : Int32 → Wd → Prop) (a0 : Nat) (a1 : Int32) (w : Wd)
    (hv : wK w a0 = 11 ∧ Ct X bX10_entryAt mX10_entryAt [vR a0, vI a1] w (qR fun x2 w1 => wK w1 a0 = 11 ∧ Ct X bX10_strikeFault mX10_strikeFault [vR a0, vR x2] w1 (qI fun x5 w4 => wK w4 a0 = 11 ∧ Ct X bX10_settle mX10_settle [vR a0, vI x5] w4 (qI fun x8 w7 => ((x8 = 0) → A 0 w7) ∧ ((¬ x8 = 0) → ((¬ x2 = 0) → wK w7 x2 = 3 ∧ wK w7 a0 = 11 ∧ Ct X bX10_newAct mX10_newAct [vR a0] w7 (qR fun x14 w13 => wK w13 (wR w7 2 1 x2) = 10 ∧ ∀ w17 : Wd, w17 = sR w13 9 4 (wR w7 2 1 x2) x14 → A 1 w17)) ∧ ((x2 = 0) → A 0 w7)))))) :
    Ct X bX10_strike mX10_strike [vR a0, vI a1] w (qI A) := by
  refine Ct.of (lv := [(0, vR a0), (1, vI a1)]) rfl (Nat.le_of_ble_eq_true rfl) rfl ?_
  refine e_aload_n (pc := 0) (i := 0) dX10_strike_0 rfl rfl ?_
  refine e_iload_n (pc := 1) (i := 1) dX10_strike_1 rfl rfl ?_
  have k3 := hv.1
  replace hv := hv.2
  refine e_callVr (pc := 2) (ci := 10) (st := []) (rc' := 1) (rs' := 2) (B' := bX10_entryAt) [vI a1] dX10_strike_2 vRX10_133 kX10_entryAt (by decide) rfl k3 rfl rfl (Nat.le_of_ble_eq_true rfl) ⟨Nat.le_of_ble_eq_true rfl, Nat.le_of_ble_eq_true rfl⟩ rfl rfl hv (fun x2 w1 hv => ?_)
  refine e_astore_n (pc := 5) (i := 2) (lv' := [(0, vR a0), (1, vI a1), (2, vR x2)]) dX10_strike_5 rfl (by decide) rfl ?_
  refine e_aload_n (pc := 6) (i := 0) dX10_strike_6 rfl rfl ?_
  refine e_aload_n (pc := 7) (i := 0) dX10_strike_7 rfl rfl ?_
  refine e_aload_n (pc := 8) (i := 2) dX10_strike_8 rfl rfl ?_
  have k6 := hv.1
  replace hv := hv.2
  refine e_callVi (pc := 9) (ci := 10) (st := [vR a0]) (rc' := 1) (rs' := 2) (B' := bX10_strikeFault) [vR x2] dX10_strike_9 vRX10_269 kX10_strikeFault (by decide) rfl k6 rfl rfl (Nat.le_of_ble_eq_true rfl) ⟨Nat.le_of_ble_eq_true rfl, Nat.le_of_ble_eq_true rfl⟩ rfl rfl hv (fun x5 w4 hv => ?_)
  have k9 := hv.1
  replace hv := hv.2
  refine e_callVi (pc := 12) (ci := 10) (st := []) (rc' := 1) (rs' := 2) (B' := bX10_settle) [vI x5] dX10_strike_12 vRX10_41 kX10_settle (by decide) rfl k9 rfl rfl (Nat.le_of_ble_eq_true rfl) ⟨Nat.le_of_ble_eq_true rfl, Nat.le_of_ble_eq_true rfl⟩ rfl rfl hv (fun x8 w7 hv => ?_)
  refine e_if_eq (pc := 15) (tgt := 22) dX10_strike_15 (by decide) (fun h10 => ?_) (fun h10 => ?_)
  · replace hv := hv.1 h10
    refine e_iconst (pc := 22) (v := 0) dX10_strike_22 (by decide) ?_
    exact e_zreturn (pc := 23) dX10_strike_23 rfl (Or.inl rfl) ⟨_, rfl, hv⟩
  · replace hv := hv.2 h10
    refine e_aload_n (pc := 18) (i := 2) dX10_strike_18 rfl rfl ?_
    refine e_ifnonnull (pc := 19) (tgt := 24) dX10_strike_19 (by decide) (fun h11 => ?_) (fun h11 => ?_)
    · replace hv := hv.1 h11
      refine e_aload_n (pc := 24) (i := 2) dX10_strike_24 rfl rfl ?_
      have k12 := hv.1
      replace hv := hv.2
      refine e_getR (pc := 25) dX10_strike_25 fRX10_141 rfl k12 ?_
      refine e_aload_n (pc := 28) (i := 0) dX10_strike_28 rfl rfl ?_
      have k15 := hv.1
      replace hv := hv.2
      refine e_callVr (pc := 29) (ci := 10) (st := [vR (wR w7 2 1 x2)]) (rc' := 0) (rs' := 0) (B' := bX10_newAct) [] dX10_strike_29 vRX10_79 kX10_newAct (by decide) rfl k15 rfl rfl (Nat.le_of_ble_eq_true rfl) ⟨Nat.le_of_ble_eq_true rfl, Nat.le_of_ble_eq_true rfl⟩ rfl rfl hv (fun x14 w13 hv => ?_)
      have k16 := hv.1
      replace hv := hv.2
      obtain ⟨w17, hw17⟩ : ∃ w17 : Wd, w17 = sR w13 9 4 (wR w7 2 1 x2) x14 := ⟨_, rfl⟩
      replace hv := hv w17 hw17
      refine e_putR (pc := 32) dX10_strike_32 fRX10_272 (Or.inl rfl) rfl k16 ?_
      rw [← hw17]
      refine e_iconst (pc := 35) (v := 1) dX10_strike_35 (by decide) ?_
      exact e_zreturn (pc := 36) dX10_strike_36 rfl (Or.inr rfl) ⟨_, rfl, hv⟩
    · replace hv := hv.2 h11
      refine e_iconst (pc := 22) (v := 0) dX10_strike_22 (by decide) ?_
      exact e_zreturn (pc := 23) dX10_strike_23 rfl (Or.inl rfl) ⟨_, rfl, hv⟩
set_option maxRecDepth 100000 in
set_option maxHeartbeats 4000000 in
theorem oX10_strikeFault (X : Cx) (A : Int32 → Wd → Prop) (a0 : Nat) (a1 : Nat) (w : Wd)
    (hv : ((¬ a1 = 0) → wK w a1 = 3 ∧ (((wR w 2 2 a1) = 0) → wK w a0 = 11 ∧ wK w (wR w 2 1 a1) = 10 ∧ Ct X bX9_livesAt mX9_livesAt [vR (wR w 2 1 a1), vR (wR w 10 8 a0)] w (qI fun x6 w5 => ((¬ x6 = 0) → wK w5 a0 = 11 ∧ wK w5 a1 = 3 ∧ wK w5 (wR w5 2 1 a1) = 10 ∧ wK w5 (wR w5 9 2 (wR w5 2 1 a1)) = 1 ∧ (((wI w5 0 0 (wR w5 9 2 (wR w5 2 1 a1))) ≤ (wI w5 10 9 a0)) → A 0 w5) ∧ ((¬ (wI w5 0 0 (wR w5 9 2 (wR w5 2 1 a1))) ≤ (wI w5 10 9 a0)) → A 8 w5)) ∧ ((x6 = 0) → A 6 w5))) ∧ ((¬ (wR w 2 2 a1) = 0) → A 4 w)) ∧ ((a1 = 0) → A 1 w)) :
    Ct X bX10_strikeFault mX10_strikeFault [vR a0, vR a1] w (qI A) := by
  refine Ct.of (lv := [(0, vR a0), (1, vR a1)]) rfl (Nat.le_of_ble_eq_true rfl) rfl ?_
  refine e_aload_n (pc := 0) (i := 1) dX10_strikeFault_0 rfl rfl ?_
  refine e_ifnonnull (pc := 1) (tgt := 6) dX10_strikeFault_1 (by decide) (fun h1 => ?_) (fun h1 => ?_)
  · replace hv := hv.1 h1
    refine e_aload_n (pc := 6) (i := 1) dX10_strikeFault_6 rfl rfl ?_
    have k2 := hv.1
    replace hv := hv.2
    refine e_getR (pc := 7) dX10_strikeFault_7 fRX10_153 rfl k2 ?_
    refine e_ifnull (pc := 10) (tgt := 15) dX10_strikeFault_10 (by decide) (fun h3 => ?_) (fun h3 => ?_)
    · replace hv := hv.1 h3
      refine e_aload_n (pc := 15) (i := 1) dX10_strikeFault_15 rfl rfl ?_
      refine e_getR (pc := 16) dX10_strikeFault_16 fRX10_141 rfl k2 ?_
      refine e_aload_n (pc := 19) (i := 0) dX10_strikeFault_19 rfl rfl ?_
      have k4 := hv.1
      replace hv := hv.2
      refine e_getR (pc := 20) dX10_strikeFault_20 fRX10_33 rfl k4 ?_
      have k7 := hv.1
      replace hv := hv.2
      refine e_callVi (pc := 23) (ci := 9) (st := []) (rc' := 0) (rs' := 0) (B' := bX9_livesAt) [vR (wR w 10 8 a0)] dX10_strikeFault_23 vRX10_174 kX9_livesAt (by decide) rfl k7 rfl rfl (Nat.le_of_ble_eq_true rfl) ⟨Nat.le_of_ble_eq_true rfl, Nat.le_of_ble_eq_true rfl⟩ rfl rfl hv (fun x6 w5 hv => ?_)
      refine e_if_ne (pc := 26) (tgt := 32) dX10_strikeFault_26 (by decide) (fun h8 => ?_) (fun h8 => ?_)
      · replace hv := hv.1 h8
        refine e_aload_n (pc := 32) (i := 0) dX10_strikeFault_32 rfl rfl ?_
        have k9 := hv.1
        replace hv := hv.2
        refine e_getI (pc := 33) dX10_strikeFault_33 fRX10_65 rfl k9 ?_
        refine e_aload_n (pc := 36) (i := 1) dX10_strikeFault_36 rfl rfl ?_
        have k10 := hv.1
        replace hv := hv.2
        refine e_getR (pc := 37) dX10_strikeFault_37 fRX10_141 rfl k10 ?_
        have k11 := hv.1
        replace hv := hv.2
        refine e_getR (pc := 40) dX10_strikeFault_40 fRX10_275 rfl k11 ?_
        have k12 := hv.1
        replace hv := hv.2
        refine e_getI (pc := 43) dX10_strikeFault_43 fRX10_85 rfl k12 ?_
        refine e_icmp_ge (pc := 46) (tgt := 54) dX10_strikeFault_46 (by decide) (fun h13 => ?_) (fun h13 => ?_)
        · replace hv := hv.1 h13
          refine e_iconst (pc := 54) (v := 0) dX10_strikeFault_54 (by decide) ?_
          exact e_ireturn (pc := 55) dX10_strikeFault_55 rfl ⟨_, rfl, hv⟩
        · replace hv := hv.2 h13
          refine e_bipush (pc := 49) (v := 8) dX10_strikeFault_49 (by decide) ?_
          refine e_goto (pc := 51) (tgt := 55) dX10_strikeFault_51 (by decide) ?_
          exact e_ireturn (pc := 55) dX10_strikeFault_55 rfl ⟨_, rfl, hv⟩
      · replace hv := hv.2 h8
        refine e_bipush (pc := 29) (v := 6) dX10_strikeFault_29 (by decide) ?_
        exact e_ireturn (pc := 31) dX10_strikeFault_31 rfl ⟨_, rfl, hv⟩
    · replace hv := hv.2 h3
      refine e_iconst (pc := 13) (v := 4) dX10_strikeFault_13 (by decide) ?_
      exact e_ireturn (pc := 14) dX10_strikeFault_14 rfl ⟨_, rfl, hv⟩
  · replace hv := hv.2 h1
    refine e_iconst (pc := 4) (v := 1) dX10_strikeFault_4 (by decide) ?_
    exact e_ireturn (pc := 5) dX10_strikeFault_5 rfl ⟨_, rfl, hv⟩
set_option maxRecDepth 100000 in
set_option maxHeartbeats 4000000 in
theorem oX10_keep (X : Cx) (A : Int32 → Wd → Prop) (a0 : Nat) (a1 : Int32) (a2 : Int32) (w : Wd)
    (hv : wK w a0 = 11 ∧ Ct X bX10_entryAt mX10_entryAt [vR a0, vI a1] w (qR fun x2 w1 => wK w1 a0 = 11 ∧ Ct X bX10_entryAt mX10_entryAt [vR a0, vI a2] w1 (qR fun x5 w4 => wK w4 a0 = 11 ∧ Ct X bX10_keepFault mX10_keepFault [vR a0, vR x2, vR x5] w4 (qI fun x8 w7 => wK w7 a0 = 11 ∧ Ct X bX10_settle mX10_settle [vR a0, vI x8] w7 (qI fun x11 w10 => ((x11 = 0) → A 0 w10) ∧ ((¬ x11 = 0) → ((x2 = 0) → A 0 w10) ∧ ((¬ x2 = 0) → ((¬ x5 = 0) → wK w10 x2 = 3 ∧ wK w10 x5 = 3 ∧ wK w10 (wR w10 2 1 x2) = 10 ∧ ∀ w19 : Wd, w19 = sR w10 9 6 (wR w10 2 1 x2) (wR w10 2 1 x5) → wK w19 a0 = 11 ∧ Ct X bX10_newAct mX10_newAct [vR a0] w19 (qR fun x22 w21 => wK w21 (wR w19 2 1 x2) = 10 ∧ ∀ w25 : Wd, w25 = sR w21 9 7 (wR w19 2 1 x2) x22 → wK w25 x5 = 3 ∧ wK w25 x2 = 3 ∧ wK w25 (wR w25 2 1 x5) = 10 ∧ ∀ w29 : Wd, w29 = sR w25 9 6 (wR w25 2 1 x5) (wR w25 2 1 x2) → A 1 w29)) ∧ ((x5 = 0) → A 0 w10)))))))) :
    Ct X bX10_keep mX10_keep [vR a0, vI a1, vI a2] w (qI A) := by
  refine Ct.of (lv := [(0, vR a0), (1, vI a1), (2, vI a2)]) rfl (Nat.le_of_ble_eq_true rfl) rfl ?_
  refine e_aload_n (pc := 0) (i := 0) dX10_keep_0 rfl rfl ?_
  refine e_iload_n (pc := 1) (i := 1) dX10_keep_1 rfl rfl ?_
  have k3 := hv.1
  replace hv := hv.2
  refine e_callVr (pc := 2) (ci := 10) (st := []) (rc' := 1) (rs' := 2) (B' := bX10_entryAt) [vI a1] dX10_keep_2 vRX10_133 kX10_entryAt (by decide) rfl k3 rfl rfl (Nat.le_of_ble_eq_true rfl) ⟨Nat.le_of_ble_eq_true rfl, Nat.le_of_ble_eq_true rfl⟩ rfl rfl hv (fun x2 w1 hv => ?_)
  refine e_astore_n (pc := 5) (i := 3) (lv' := [(0, vR a0), (1, vI a1), (2, vI a2), (3, vR x2)]) dX10_keep_5 rfl (by decide) rfl ?_
  refine e_aload_n (pc := 6) (i := 0) dX10_keep_6 rfl rfl ?_
  refine e_iload_n (pc := 7) (i := 2) dX10_keep_7 rfl rfl ?_
  have k6 := hv.1
  replace hv := hv.2
  refine e_callVr (pc := 8) (ci := 10) (st := []) (rc' := 1) (rs' := 2) (B' := bX10_entryAt) [vI a2] dX10_keep_8 vRX10_133 kX10_entryAt (by decide) rfl k6 rfl rfl (Nat.le_of_ble_eq_true rfl) ⟨Nat.le_of_ble_eq_true rfl, Nat.le_of_ble_eq_true rfl⟩ rfl rfl hv (fun x5 w4 hv => ?_)
  refine e_astore (pc := 11) (i := 4) (lv' := [(0, vR a0), (1, vI a1), (2, vI a2), (3, vR x2), (4, vR x5)]) dX10_keep_11 (by decide) rfl ?_
  refine e_aload_n (pc := 13) (i := 0) dX10_keep_13 rfl rfl ?_
  refine e_aload_n (pc := 14) (i := 0) dX10_keep_14 rfl rfl ?_
  refine e_aload_n (pc := 15) (i := 3) dX10_keep_15 rfl rfl ?_
  refine e_aload (pc := 16) (i := 4) dX10_keep_16 rfl ?_
  have k9 := hv.1
  replace hv := hv.2
  refine e_callVi (pc := 18) (ci := 10) (st := [vR a0]) (rc' := 1) (rs' := 2) (B' := bX10_keepFault) [vR x2, vR x5] dX10_keep_18 vRX10_278 kX10_keepFault (by decide) rfl k9 rfl rfl (Nat.le_of_ble_eq_true rfl) ⟨Nat.le_of_ble_eq_true rfl, Nat.le_of_ble_eq_true rfl⟩ rfl rfl hv (fun x8 w7 hv => ?_)
  have k12 := hv.1
  replace hv := hv.2
  refine e_callVi (pc := 21) (ci := 10) (st := []) (rc' := 1) (rs' := 2) (B' := bX10_settle) [vI x8] dX10_keep_21 vRX10_41 kX10_settle (by decide) rfl k12 rfl rfl (Nat.le_of_ble_eq_true rfl) ⟨Nat.le_of_ble_eq_true rfl, Nat.le_of_ble_eq_true rfl⟩ rfl rfl hv (fun x11 w10 hv => ?_)
  refine e_if_eq (pc := 24) (tgt := 36) dX10_keep_24 (by decide) (fun h13 => ?_) (fun h13 => ?_)
  · replace hv := hv.1 h13
    refine e_iconst (pc := 36) (v := 0) dX10_keep_36 (by decide) ?_
    exact e_zreturn (pc := 37) dX10_keep_37 rfl (Or.inl rfl) ⟨_, rfl, hv⟩
  · replace hv := hv.2 h13
    refine e_aload_n (pc := 27) (i := 3) dX10_keep_27 rfl rfl ?_
    refine e_ifnull (pc := 28) (tgt := 36) dX10_keep_28 (by decide) (fun h14 => ?_) (fun h14 => ?_)
    · replace hv := hv.1 h14
      refine e_iconst (pc := 36) (v := 0) dX10_keep_36 (by decide) ?_
      exact e_zreturn (pc := 37) dX10_keep_37 rfl (Or.inl rfl) ⟨_, rfl, hv⟩
    · replace hv := hv.2 h14
      refine e_aload (pc := 31) (i := 4) dX10_keep_31 rfl ?_
      refine e_ifnonnull (pc := 33) (tgt := 38) dX10_keep_33 (by decide) (fun h15 => ?_) (fun h15 => ?_)
      · replace hv := hv.1 h15
        refine e_aload_n (pc := 38) (i := 3) dX10_keep_38 rfl rfl ?_
        have k16 := hv.1
        replace hv := hv.2
        refine e_getR (pc := 39) dX10_keep_39 fRX10_141 rfl k16 ?_
        refine e_aload (pc := 42) (i := 4) dX10_keep_42 rfl ?_
        have k17 := hv.1
        replace hv := hv.2
        refine e_getR (pc := 44) dX10_keep_44 fRX10_141 rfl k17 ?_
        have k18 := hv.1
        replace hv := hv.2
        obtain ⟨w19, hw19⟩ : ∃ w19 : Wd, w19 = sR w10 9 6 (wR w10 2 1 x2) (wR w10 2 1 x5) := ⟨_, rfl⟩
        replace hv := hv w19 hw19
        refine e_putR (pc := 47) dX10_keep_47 fRX10_282 (Or.inl rfl) rfl k18 ?_
        rw [← hw19]
        refine e_aload_n (pc := 50) (i := 3) dX10_keep_50 rfl rfl ?_
        have k20 : wK w19 x2 = 3 := (by rw [hw19]; exact k16)
        refine e_getR (pc := 51) dX10_keep_51 fRX10_141 rfl k20 ?_
        refine e_aload_n (pc := 54) (i := 0) dX10_keep_54 rfl rfl ?_
        have k23 := hv.1
        replace hv := hv.2
        refine e_callVr (pc := 55) (ci := 10) (st := [vR (wR w19 2 1 x2)]) (rc' := 0) (rs' := 0) (B' := bX10_newAct) [] dX10_keep_55 vRX10_79 kX10_newAct (by decide) rfl k23 rfl rfl (Nat.le_of_ble_eq_true rfl) ⟨Nat.le_of_ble_eq_true rfl, Nat.le_of_ble_eq_true rfl⟩ rfl rfl hv (fun x22 w21 hv => ?_)
        have k24 := hv.1
        replace hv := hv.2
        obtain ⟨w25, hw25⟩ : ∃ w25 : Wd, w25 = sR w21 9 7 (wR w19 2 1 x2) x22 := ⟨_, rfl⟩
        replace hv := hv w25 hw25
        refine e_putR (pc := 58) dX10_keep_58 fRX10_285 (Or.inl rfl) rfl k24 ?_
        rw [← hw25]
        refine e_aload (pc := 61) (i := 4) dX10_keep_61 rfl ?_
        have k26 := hv.1
        replace hv := hv.2
        refine e_getR (pc := 63) dX10_keep_63 fRX10_141 rfl k26 ?_
        refine e_aload_n (pc := 66) (i := 3) dX10_keep_66 rfl rfl ?_
        have k27 := hv.1
        replace hv := hv.2
        refine e_getR (pc := 67) dX10_keep_67 fRX10_141 rfl k27 ?_
        have k28 := hv.1
        replace hv := hv.2
        obtain ⟨w29, hw29⟩ : ∃ w29 : Wd, w29 = sR w25 9 6 (wR w25 2 1 x5) (wR w25 2 1 x2) := ⟨_, rfl⟩
        replace hv := hv w29 hw29
        refine e_putR (pc := 70) dX10_keep_70 fRX10_282 (Or.inl rfl) rfl k28 ?_
        rw [← hw29]
        refine e_iconst (pc := 73) (v := 1) dX10_keep_73 (by decide) ?_
        exact e_zreturn (pc := 74) dX10_keep_74 rfl (Or.inr rfl) ⟨_, rfl, hv⟩
      · replace hv := hv.2 h15
        refine e_iconst (pc := 36) (v := 0) dX10_keep_36 (by decide) ?_
        exact e_zreturn (pc := 37) dX10_keep_37 rfl (Or.inl rfl) ⟨_, rfl, hv⟩
abbrev jX10_keepFault_108 (X : Cx) (A : Int32 → Wd → Prop) (l3 : Nat) (l4 : Nat) (s0 : Int32) (w : Wd) : Prop := EJ X mX10_keepFault (vw X bX10_keepFault (qI A)) 0 0 108 [(3, vR l3), (4, vR l4)] [vI s0] w
set_option maxRecDepth 100000 in
set_option maxHeartbeats 4000000 in
theorem tX10_keepFault_108 (X : Cx) (A : Int32 → Wd → Prop) (l3 : Nat) (l4 : Nat) (s0 : Int32) (w : Wd)
    (hv : ((s0 = 0) → A 8 w) ∧ ((¬ s0 = 0) → wK w l3 = 10 ∧ ((¬ (wR w 9 6 l3) = 0) → A 8 w) ∧ (((wR w 9 6 l3) = 0) → wK w l4 = 10 ∧ (((wR w 9 6 l4) = 0) → A 0 w) ∧ ((¬ (wR w 9 6 l4) = 0) → A 8 w)))) :
    jX10_keepFault_108 X A l3 l4 s0 w := by
  refine e_istore (pc := 108) (i := 6) (lv' := [(3, vR l3), (4, vR l4), (6, vI s0)]) dX10_keepFault_108 (by decide) rfl ?_
  refine e_iload (pc := 110) (i := 6) dX10_keepFault_110 rfl ?_
  refine e_if_eq (pc := 112) (tgt := 130) dX10_keepFault_112 (by decide) (fun h1 => ?_) (fun h1 => ?_)
  · replace hv := hv.1 h1
    refine e_bipush (pc := 130) (v := 8) dX10_keepFault_130 (by decide) ?_
    refine e_goto (pc := 132) (tgt := 136) dX10_keepFault_132 (by decide) ?_
    exact e_ireturn (pc := 136) dX10_keepFault_136 rfl ⟨_, rfl, hv⟩
  · replace hv := hv.2 h1
    refine e_aload_n (pc := 115) (i := 3) dX10_keepFault_115 rfl rfl ?_
    have k2 := hv.1
    replace hv := hv.2
    refine e_getR (pc := 116) dX10_keepFault_116 fRX10_282 rfl k2 ?_
    refine e_ifnonnull (pc := 119) (tgt := 130) dX10_keepFault_119 (by decide) (fun h3 => ?_) (fun h3 => ?_)
    · replace hv := hv.1 h3
      refine e_bipush (pc := 130) (v := 8) dX10_keepFault_130 (by decide) ?_
      refine e_goto (pc := 132) (tgt := 136) dX10_keepFault_132 (by decide) ?_
      exact e_ireturn (pc := 136) dX10_keepFault_136 rfl ⟨_, rfl, hv⟩
    · replace hv := hv.2 h3
      refine e_aload (pc := 122) (i := 4) dX10_keepFault_122 rfl ?_
      have k4 := hv.1
      replace hv := hv.2
      refine e_getR (pc := 124) dX10_keepFault_124 fRX10_282 rfl k4 ?_
      refine e_ifnull (pc := 127) (tgt := 135) dX10_keepFault_127 (by decide) (fun h5 => ?_) (fun h5 => ?_)
      · replace hv := hv.1 h5
        refine e_iconst (pc := 135) (v := 0) dX10_keepFault_135 (by decide) ?_
        exact e_ireturn (pc := 136) dX10_keepFault_136 rfl ⟨_, rfl, hv⟩
      · replace hv := hv.2 h5
        refine e_bipush (pc := 130) (v := 8) dX10_keepFault_130 (by decide) ?_
        refine e_goto (pc := 132) (tgt := 136) dX10_keepFault_132 (by decide) ?_
        exact e_ireturn (pc := 136) dX10_keepFault_136 rfl ⟨_, rfl, hv⟩
set_option maxRecDepth 100000 in
set_option maxHeartbeats 4000000 in
theorem oX10_keepFault (X : Cx) (A : Int32 → Wd → Prop) (a0 : Nat) (a1 : Nat) (a2 : Nat) (w : Wd)
    (hv : ((a1 = 0) → A 1 w) ∧ ((¬ a1 = 0) → ((¬ a2 = 0) → wK w a1 = 3 ∧ wK w a2 = 3 ∧ wK w (wR w 2 1 a1) = 10 ∧ wK w (wR w 9 3 (wR w 2 1 a1)) = 9 ∧ ((¬ (wI w 8 0 (wR w 9 3 (wR w 2 1 a1))) = 6) → A 4 w) ∧ (((wI w 8 0 (wR w 9 3 (wR w 2 1 a1))) = 6) → wK w (wR w 2 1 a2) = 10 ∧ wK w (wR w 9 3 (wR w 2 1 a2)) = 9 ∧ (((wI w 8 0 (wR w 9 3 (wR w 2 1 a2))) = 6) → A 4 w) ∧ ((¬ (wI w 8 0 (wR w 9 3 (wR w 2 1 a2))) = 6) → (((wR w 2 2 a2) = 0) → wK w a0 = 11 ∧ Ct X bX10_liveInOneFolio mX10_liveInOneFolio [vR a0, vR (wR w 2 1 a1), vR (wR w 2 1 a2)] w (qI fun x13 w12 => ((¬ x13 = 0) → wK w12 (wR w 2 1 a2) = 10 ∧ wK w12 (wR w12 9 2 (wR w 2 1 a2)) = 1 ∧ wK w12 (wR w 2 1 a1) = 10 ∧ wK w12 (wR w12 9 2 (wR w 2 1 a1)) = 1 ∧ ((((wI w12 0 0 (wR w12 9 2 (wR w 2 1 a2))) - (wI w12 0 0 (wR w12 9 2 (wR w 2 1 a1)))) < 0) → jX10_keepFault_108 X A (wR w 2 1 a1) (wR w 2 1 a2) 0 w12) ∧ ((¬ ((wI w12 0 0 (wR w12 9 2 (wR w 2 1 a2))) - (wI w12 0 0 (wR w12 9 2 (wR w 2 1 a1)))) < 0) → wK w12 (wR w12 9 3 (wR w 2 1 a1)) = 9 ∧ (((wI w12 8 1 (wR w12 9 3 (wR w 2 1 a1))) < ((wI w12 0 0 (wR w12 9 2 (wR w 2 1 a2))) - (wI w12 0 0 (wR w12 9 2 (wR w 2 1 a1))))) → jX10_keepFault_108 X A (wR w 2 1 a1) (wR w 2 1 a2) 0 w12) ∧ ((¬ (wI w12 8 1 (wR w12 9 3 (wR w 2 1 a1))) < ((wI w12 0 0 (wR w12 9 2 (wR w 2 1 a2))) - (wI w12 0 0 (wR w12 9 2 (wR w 2 1 a1))))) → jX10_keepFault_108 X A (wR w 2 1 a1) (wR w 2 1 a2) 1 w12))) ∧ ((x13 = 0) → A 6 w12))) ∧ ((¬ (wR w 2 2 a2) = 0) → A 4 w)))) ∧ ((a2 = 0) → A 1 w))) :
    Ct X bX10_keepFault mX10_keepFault [vR a0, vR a1, vR a2] w (qI A) := by
  refine Ct.of (lv := [(0, vR a0), (1, vR a1), (2, vR a2)]) rfl (Nat.le_of_ble_eq_true rfl) rfl ?_
  refine e_aload_n (pc := 0) (i := 1) dX10_keepFault_0 rfl rfl ?_
  refine e_ifnull (pc := 1) (tgt := 8) dX10_keepFault_1 (by decide) (fun h1 => ?_) (fun h1 => ?_)
  · replace hv := hv.1 h1
    refine e_iconst (pc := 8) (v := 1) dX10_keepFault_8 (by decide) ?_
    exact e_ireturn (pc := 9) dX10_keepFault_9 rfl ⟨_, rfl, hv⟩
  · replace hv := hv.2 h1
    refine e_aload_n (pc := 4) (i := 2) dX10_keepFault_4 rfl rfl ?_
    refine e_ifnonnull (pc := 5) (tgt := 10) dX10_keepFault_5 (by decide) (fun h2 => ?_) (fun h2 => ?_)
    · replace hv := hv.1 h2
      refine e_aload_n (pc := 10) (i := 1) dX10_keepFault_10 rfl rfl ?_
      have k3 := hv.1
      replace hv := hv.2
      refine e_getR (pc := 11) dX10_keepFault_11 fRX10_141 rfl k3 ?_
      refine e_astore_n (pc := 14) (i := 3) (lv' := [(0, vR a0), (1, vR a1), (2, vR a2), (3, vR (wR w 2 1 a1))]) dX10_keepFault_14 rfl (by decide) rfl ?_
      refine e_aload_n (pc := 15) (i := 2) dX10_keepFault_15 rfl rfl ?_
      have k4 := hv.1
      replace hv := hv.2
      refine e_getR (pc := 16) dX10_keepFault_16 fRX10_141 rfl k4 ?_
      refine e_astore (pc := 19) (i := 4) (lv' := [(0, vR a0), (1, vR a1), (2, vR a2), (3, vR (wR w 2 1 a1)), (4, vR (wR w 2 1 a2))]) dX10_keepFault_19 (by decide) rfl ?_
      refine e_aload_n (pc := 21) (i := 3) dX10_keepFault_21 rfl rfl ?_
      have k5 := hv.1
      replace hv := hv.2
      refine e_getR (pc := 22) dX10_keepFault_22 fRX10_145 rfl k5 ?_
      have k6 := hv.1
      replace hv := hv.2
      refine e_getI (pc := 25) dX10_keepFault_25 fRX10_157 rfl k6 ?_
      refine e_bipush (pc := 28) (v := 6) dX10_keepFault_28 (by decide) ?_
      refine e_icmp_ne (pc := 30) (tgt := 53) dX10_keepFault_30 (by decide) (fun h7 => ?_) (fun h7 => ?_)
      · replace hv := hv.1 h7
        refine e_iconst (pc := 53) (v := 4) dX10_keepFault_53 (by decide) ?_
        exact e_ireturn (pc := 54) dX10_keepFault_54 rfl ⟨_, rfl, hv⟩
      · replace hv := hv.2 h7
        refine e_aload (pc := 33) (i := 4) dX10_keepFault_33 rfl ?_
        have k8 := hv.1
        replace hv := hv.2
        refine e_getR (pc := 35) dX10_keepFault_35 fRX10_145 rfl k8 ?_
        have k9 := hv.1
        replace hv := hv.2
        refine e_getI (pc := 38) dX10_keepFault_38 fRX10_157 rfl k9 ?_
        refine e_bipush (pc := 41) (v := 6) dX10_keepFault_41 (by decide) ?_
        refine e_icmp_eq (pc := 43) (tgt := 53) dX10_keepFault_43 (by decide) (fun h10 => ?_) (fun h10 => ?_)
        · replace hv := hv.1 h10
          refine e_iconst (pc := 53) (v := 4) dX10_keepFault_53 (by decide) ?_
          exact e_ireturn (pc := 54) dX10_keepFault_54 rfl ⟨_, rfl, hv⟩
        · replace hv := hv.2 h10
          refine e_aload_n (pc := 46) (i := 2) dX10_keepFault_46 rfl rfl ?_
          refine e_getR (pc := 47) dX10_keepFault_47 fRX10_153 rfl k4 ?_
          refine e_ifnull (pc := 50) (tgt := 55) dX10_keepFault_50 (by decide) (fun h11 => ?_) (fun h11 => ?_)
          · replace hv := hv.1 h11
            refine e_aload_n (pc := 55) (i := 0) dX10_keepFault_55 rfl rfl ?_
            refine e_aload_n (pc := 56) (i := 3) dX10_keepFault_56 rfl rfl ?_
            refine e_aload (pc := 57) (i := 4) dX10_keepFault_57 rfl ?_
            have k14 := hv.1
            replace hv := hv.2
            refine e_callVi (pc := 59) (ci := 10) (st := []) (rc' := 0) (rs' := 0) (B' := bX10_liveInOneFolio) [vR (wR w 2 1 a1), vR (wR w 2 1 a2)] dX10_keepFault_59 vRX10_242 kX10_liveInOneFolio (by decide) rfl k14 rfl rfl (Nat.le_of_ble_eq_true rfl) ⟨Nat.le_of_ble_eq_true rfl, Nat.le_of_ble_eq_true rfl⟩ rfl rfl hv (fun x13 w12 hv => ?_)
            refine e_if_ne (pc := 62) (tgt := 68) dX10_keepFault_62 (by decide) (fun h15 => ?_) (fun h15 => ?_)
            · replace hv := hv.1 h15
              refine e_aload (pc := 68) (i := 4) dX10_keepFault_68 rfl ?_
              have k16 := hv.1
              replace hv := hv.2
              refine e_getR (pc := 70) dX10_keepFault_70 fRX10_275 rfl k16 ?_
              have k17 := hv.1
              replace hv := hv.2
              refine e_getI (pc := 73) dX10_keepFault_73 fRX10_85 rfl k17 ?_
              refine e_aload_n (pc := 76) (i := 3) dX10_keepFault_76 rfl rfl ?_
              have k18 := hv.1
              replace hv := hv.2
              refine e_getR (pc := 77) dX10_keepFault_77 fRX10_275 rfl k18 ?_
              have k19 := hv.1
              replace hv := hv.2
              refine e_getI (pc := 80) dX10_keepFault_80 fRX10_85 rfl k19 ?_
              refine e_isub (pc := 83) dX10_keepFault_83 ?_
              refine e_istore (pc := 84) (i := 5) (lv' := [(0, vR a0), (1, vR a1), (2, vR a2), (3, vR (wR w 2 1 a1)), (4, vR (wR w 2 1 a2)), (5, vI ((wI w12 0 0 (wR w12 9 2 (wR w 2 1 a2))) - (wI w12 0 0 (wR w12 9 2 (wR w 2 1 a1)))))]) dX10_keepFault_84 (by decide) rfl ?_
              refine e_iload (pc := 86) (i := 5) dX10_keepFault_86 rfl ?_
              refine e_if_lt (pc := 88) (tgt := 107) dX10_keepFault_88 (by decide) (fun h20 => ?_) (fun h20 => ?_)
              · replace hv := hv.1 h20
                refine e_iconst (pc := 107) (v := 0) dX10_keepFault_107 (by decide) ?_
                exact EJ.drop [3, 4] rfl hv
              · replace hv := hv.2 h20
                refine e_iload (pc := 91) (i := 5) dX10_keepFault_91 rfl ?_
                refine e_aload_n (pc := 93) (i := 3) dX10_keepFault_93 rfl rfl ?_
                refine e_getR (pc := 94) dX10_keepFault_94 fRX10_145 rfl k18 ?_
                have k21 := hv.1
                replace hv := hv.2
                refine e_getI (pc := 97) dX10_keepFault_97 fRX10_288 rfl k21 ?_
                refine e_icmp_gt (pc := 100) (tgt := 107) dX10_keepFault_100 (by decide) (fun h22 => ?_) (fun h22 => ?_)
                · replace hv := hv.1 h22
                  refine e_iconst (pc := 107) (v := 0) dX10_keepFault_107 (by decide) ?_
                  exact EJ.drop [3, 4] rfl hv
                · replace hv := hv.2 h22
                  refine e_iconst (pc := 103) (v := 1) dX10_keepFault_103 (by decide) ?_
                  refine e_goto (pc := 104) (tgt := 108) dX10_keepFault_104 (by decide) ?_
                  exact EJ.drop [3, 4] rfl hv
            · replace hv := hv.2 h15
              refine e_bipush (pc := 65) (v := 6) dX10_keepFault_65 (by decide) ?_
              exact e_ireturn (pc := 67) dX10_keepFault_67 rfl ⟨_, rfl, hv⟩
          · replace hv := hv.2 h11
            refine e_iconst (pc := 53) (v := 4) dX10_keepFault_53 (by decide) ?_
            exact e_ireturn (pc := 54) dX10_keepFault_54 rfl ⟨_, rfl, hv⟩
    · replace hv := hv.2 h2
      refine e_iconst (pc := 8) (v := 1) dX10_keepFault_8 (by decide) ?_
      exact e_ireturn (pc := 9) dX10_keepFault_9 rfl ⟨_, rfl, hv⟩
set_option maxRecDepth 100000 in
set_option maxHeartbeats 4000000 in
theorem oX10_many (X : Cx) (A : Int32 → Wd → Prop) (a0 : Nat) (a1 : Int32) (a2 : Int32) (w : Wd)
    (hv : wK w a0 = 11 ∧ Ct X bX10_folioAt mX10_folioAt [vR a0, vI a1] w (qR fun x2 w1 => Ct X bX10_parcelFault mX10_parcelFault [vR x2, vI a2] w1 (qI fun x5 w4 => wK w4 a0 = 11 ∧ Ct X bX10_settle mX10_settle [vR a0, vI x5] w4 (qI fun x7 w6 => ((x7 = 0) → A (-1) w6) ∧ ((¬ x7 = 0) → ((¬ x2 = 0) → ∀ q11 : Nat, wK w6 q11 = 0 → q11 ≠ 0 → ∀ w12 : Wd, w12 = nO w6 6 q11 → wK w12 a0 = 11 ∧ Ct X bX6_init mX6_init [vR q11, vR x2, vI a2, vR (wR w12 10 8 a0), vR (wR w12 10 6 a0)] w12 (qV fun w14 => wK w14 q11 = 7 ∧ Ct X bX6_arrange mX6_arrange [vR q11] w14 (qV fun w16 => wK w16 q11 = 7 ∧ A (wI w16 6 4 q11) w16))) ∧ ((x2 = 0) → A (-1) w6)))))) :
    Ct X bX10_many mX10_many [vR a0, vI a1, vI a2] w (qI A) := by
  refine Ct.of (lv := [(0, vR a0), (1, vI a1), (2, vI a2)]) rfl (Nat.le_of_ble_eq_true rfl) rfl ?_
  refine e_aload_n (pc := 0) (i := 0) dX10_many_0 rfl rfl ?_
  refine e_iload_n (pc := 1) (i := 1) dX10_many_1 rfl rfl ?_
  have k3 := hv.1
  replace hv := hv.2
  refine e_callVr (pc := 2) (ci := 10) (st := []) (rc' := 1) (rs' := 5) (B' := bX10_folioAt) [vI a1] dX10_many_2 vRX10_50 kX10_folioAt (by decide) rfl k3 rfl rfl (Nat.le_of_ble_eq_true rfl) ⟨Nat.le_of_ble_eq_true rfl, Nat.le_of_ble_eq_true rfl⟩ rfl rfl hv (fun x2 w1 hv => ?_)
  refine e_astore_n (pc := 5) (i := 3) (lv' := [(0, vR a0), (1, vI a1), (2, vI a2), (3, vR x2)]) dX10_many_5 rfl (by decide) rfl ?_
  refine e_aload_n (pc := 6) (i := 0) dX10_many_6 rfl rfl ?_
  refine e_aload_n (pc := 7) (i := 3) dX10_many_7 rfl rfl ?_
  refine e_iload_n (pc := 8) (i := 2) dX10_many_8 rfl rfl ?_
  refine e_callSi (pc := 9) (st := [vR a0]) (rc' := 1) (rs' := 5) (B' := bX10_parcelFault) [vR x2, vI a2] dX10_many_9 vRX10_54 kX10_parcelFault rfl rfl (Nat.le_of_ble_eq_true rfl) ⟨Nat.le_of_ble_eq_true rfl, Nat.le_of_ble_eq_true rfl⟩ rfl rfl hv (fun x5 w4 hv => ?_)
  have k8 := hv.1
  replace hv := hv.2
  refine e_callVi (pc := 12) (ci := 10) (st := []) (rc' := 1) (rs' := 5) (B' := bX10_settle) [vI x5] dX10_many_12 vRX10_41 kX10_settle (by decide) rfl k8 rfl rfl (Nat.le_of_ble_eq_true rfl) ⟨Nat.le_of_ble_eq_true rfl, Nat.le_of_ble_eq_true rfl⟩ rfl rfl hv (fun x7 w6 hv => ?_)
  refine e_if_eq (pc := 15) (tgt := 22) dX10_many_15 (by decide) (fun h9 => ?_) (fun h9 => ?_)
  · replace hv := hv.1 h9
    refine e_iconst (pc := 22) (v := (-1)) dX10_many_22 (by decide) ?_
    exact e_ireturn (pc := 23) dX10_many_23 rfl ⟨_, rfl, hv⟩
  · replace hv := hv.2 h9
    refine e_aload_n (pc := 18) (i := 3) dX10_many_18 rfl rfl ?_
    refine e_ifnonnull (pc := 19) (tgt := 24) dX10_many_19 (by decide) (fun h10 => ?_) (fun h10 => ?_)
    · replace hv := hv.1 h10
      refine e_new (pc := 24) (ci := 6) (rc' := 0) (rs' := 0) dX10_many_24 (by decide) (tb_a3 149 (by decide +kernel) rfl) dv6 rfl rfl (fun q11 hq11 nq11 => ?_)
      obtain ⟨w12, hw12⟩ : ∃ w12 : Wd, w12 = nO w6 6 q11 := ⟨_, rfl⟩
      replace hv := hv q11 hq11 nq11 w12 hw12
      rw [← hw12]
      refine e_dup (pc := 27) dX10_many_27 rfl ?_
      refine e_aload_n (pc := 28) (i := 3) dX10_many_28 rfl rfl ?_
      refine e_iload_n (pc := 29) (i := 2) dX10_many_29 rfl rfl ?_
      refine e_aload_n (pc := 30) (i := 0) dX10_many_30 rfl rfl ?_
      have k13 := hv.1
      replace hv := hv.2
      refine e_getR (pc := 31) dX10_many_31 fRX10_33 rfl k13 ?_
      refine e_aload_n (pc := 34) (i := 0) dX10_many_34 rfl rfl ?_
      refine e_getR (pc := 35) dX10_many_35 fRX10_233 rfl k13 ?_
      refine e_callIv (pc := 38) (st := [vR q11]) (rc' := 0) (rs' := 0) (B' := bX6_init) [vR x2, vI a2, vR (wR w12 10 8 a0), vR (wR w12 10 6 a0)] dX10_many_38 vRX10_293 kX6_init rfl rfl (K_ne (by rw [hw12]; exact nO_new)) rfl rfl (Nat.le_of_ble_eq_true rfl) ⟨Nat.le_of_ble_eq_true rfl, Nat.le_of_ble_eq_true rfl⟩ rfl rfl hv (fun w14 hv => ?_)
      refine e_astore (pc := 41) (i := 4) (lv' := [(0, vR a0), (1, vI a1), (2, vI a2), (3, vR x2), (4, vR q11)]) dX10_many_41 (by decide) rfl ?_
      refine e_aload (pc := 43) (i := 4) dX10_many_43 rfl ?_
      have k18 := hv.1
      replace hv := hv.2
      refine e_callVv (pc := 45) (ci := 6) (st := []) (rc' := 0) (rs' := 0) (B' := bX6_arrange) [] dX10_many_45 vRX10_296 kX6_arrange (by decide) rfl k18 rfl rfl (Nat.le_of_ble_eq_true rfl) ⟨Nat.le_of_ble_eq_true rfl, Nat.le_of_ble_eq_true rfl⟩ rfl rfl hv (fun w16 hv => ?_)
      refine e_aload (pc := 48) (i := 4) dX10_many_48 rfl ?_
      have k19 := hv.1
      replace hv := hv.2
      refine e_getI (pc := 50) dX10_many_50 fRX10_299 rfl k19 ?_
      exact e_ireturn (pc := 53) dX10_many_53 rfl ⟨_, rfl, hv⟩
    · replace hv := hv.2 h10
      refine e_iconst (pc := 22) (v := (-1)) dX10_many_22 (by decide) ?_
      exact e_ireturn (pc := 23) dX10_many_23 rfl ⟨_, rfl, hv⟩
set_option maxRecDepth 100000 in
set_option maxHeartbeats 4000000 in
theorem oX10_list (X : Cx) (A : Int32 → Wd → Prop) (a0 : Nat) (a1 : Int32) (a2 : Int32) (a3 : Int32) (w : Wd)
    (hv : wK w a0 = 11 ∧ Ct X bX10_folioAt mX10_folioAt [vR a0, vI a1] w (qR fun x2 w1 => wK w1 a0 = 11 ∧ Ct X bX10_nth mX10_nth [vR a0, vR x2, vI a2, vR (wR w1 10 8 a0), vI a3] w1 (qI fun x6 w5 => A x6 w5))) :
    Ct X bX10_list mX10_list [vR a0, vI a1, vI a2, vI a3] w (qI A) := by
  refine Ct.of (lv := [(0, vR a0), (1, vI a1), (2, vI a2), (3, vI a3)]) rfl (Nat.le_of_ble_eq_true rfl) rfl ?_
  refine e_aload_n (pc := 0) (i := 0) dX10_list_0 rfl rfl ?_
  refine e_aload_n (pc := 1) (i := 0) dX10_list_1 rfl rfl ?_
  refine e_iload_n (pc := 2) (i := 1) dX10_list_2 rfl rfl ?_
  have k3 := hv.1
  replace hv := hv.2
  refine e_callVr (pc := 3) (ci := 10) (st := [vR a0]) (rc' := 1) (rs' := 5) (B' := bX10_folioAt) [vI a1] dX10_list_3 vRX10_50 kX10_folioAt (by decide) rfl k3 rfl rfl (Nat.le_of_ble_eq_true rfl) ⟨Nat.le_of_ble_eq_true rfl, Nat.le_of_ble_eq_true rfl⟩ rfl rfl hv (fun x2 w1 hv => ?_)
  refine e_iload_n (pc := 6) (i := 2) dX10_list_6 rfl rfl ?_
  refine e_aload_n (pc := 7) (i := 0) dX10_list_7 rfl rfl ?_
  have k4 := hv.1
  replace hv := hv.2
  refine e_getR (pc := 8) dX10_list_8 fRX10_33 rfl k4 ?_
  refine e_iload_n (pc := 11) (i := 3) dX10_list_11 rfl rfl ?_
  refine e_callVi (pc := 12) (ci := 10) (st := []) (rc' := 0) (rs' := 0) (B' := bX10_nth) [vR x2, vI a2, vR (wR w1 10 8 a0), vI a3] dX10_list_12 vRX10_302 kX10_nth (by decide) rfl k4 rfl rfl (Nat.le_of_ble_eq_true rfl) ⟨Nat.le_of_ble_eq_true rfl, Nat.le_of_ble_eq_true rfl⟩ rfl rfl hv (fun x6 w5 hv => ?_)
  exact e_ireturn (pc := 15) dX10_list_15 rfl ⟨_, rfl, hv⟩
set_option maxRecDepth 100000 in
set_option maxHeartbeats 4000000 in
theorem oX10_rank (X : Cx) (A : Int32 → Wd → Prop) (a0 : Nat) (a1 : Int32) (a2 : Int32) (w : Wd)
    (hv : wK w a0 = 11 ∧ Ct X bX10_entryAt mX10_entryAt [vR a0, vI a1] w (qR fun x2 w1 => wK w1 a0 = 11 ∧ Ct X bX10_standing mX10_standing [vR a0, vR x2, vI a2] w1 (qR fun x5 w4 => ((¬ x5 = 0) → wK w4 x5 = 10 ∧ A (wI w4 9 14 x5) w4) ∧ ((x5 = 0) → A (-1) w4)))) :
    Ct X bX10_rank mX10_rank [vR a0, vI a1, vI a2] w (qI A) := by
  refine Ct.of (lv := [(0, vR a0), (1, vI a1), (2, vI a2)]) rfl (Nat.le_of_ble_eq_true rfl) rfl ?_
  refine e_aload_n (pc := 0) (i := 0) dX10_rank_0 rfl rfl ?_
  refine e_aload_n (pc := 1) (i := 0) dX10_rank_1 rfl rfl ?_
  refine e_iload_n (pc := 2) (i := 1) dX10_rank_2 rfl rfl ?_
  have k3 := hv.1
  replace hv := hv.2
  refine e_callVr (pc := 3) (ci := 10) (st := [vR a0]) (rc' := 1) (rs' := 5) (B' := bX10_entryAt) [vI a1] dX10_rank_3 vRX10_133 kX10_entryAt (by decide) rfl k3 rfl rfl (Nat.le_of_ble_eq_true rfl) ⟨Nat.le_of_ble_eq_true rfl, Nat.le_of_ble_eq_true rfl⟩ rfl rfl hv (fun x2 w1 hv => ?_)
  refine e_iload_n (pc := 6) (i := 2) dX10_rank_6 rfl rfl ?_
  have k6 := hv.1
  replace hv := hv.2
  refine e_callVr (pc := 7) (ci := 10) (st := []) (rc' := 0) (rs' := 0) (B' := bX10_standing) [vR x2, vI a2] dX10_rank_7 vRX10_306 kX10_standing (by decide) rfl k6 rfl rfl (Nat.le_of_ble_eq_true rfl) ⟨Nat.le_of_ble_eq_true rfl, Nat.le_of_ble_eq_true rfl⟩ rfl rfl hv (fun x5 w4 hv => ?_)
  refine e_astore_n (pc := 10) (i := 3) (lv' := [(0, vR a0), (1, vI a1), (2, vI a2), (3, vR x5)]) dX10_rank_10 rfl (by decide) rfl ?_
  refine e_aload_n (pc := 11) (i := 3) dX10_rank_11 rfl rfl ?_
  refine e_ifnonnull (pc := 12) (tgt := 19) dX10_rank_12 (by decide) (fun h7 => ?_) (fun h7 => ?_)
  · replace hv := hv.1 h7
    refine e_aload_n (pc := 19) (i := 3) dX10_rank_19 rfl rfl ?_
    have k8 := hv.1
    replace hv := hv.2
    refine e_getI (pc := 20) dX10_rank_20 fRX10_310 rfl k8 ?_
    exact e_ireturn (pc := 23) dX10_rank_23 rfl ⟨_, rfl, hv⟩
  · replace hv := hv.2 h7
    refine e_iconst (pc := 15) (v := (-1)) dX10_rank_15 (by decide) ?_
    refine e_goto (pc := 16) (tgt := 23) dX10_rank_16 (by decide) ?_
    exact e_ireturn (pc := 23) dX10_rank_23 rfl ⟨_, rfl, hv⟩
set_option maxRecDepth 100000 in
set_option maxHeartbeats 4000000 in
theorem oX10_why (X : Cx) (A : Int32 → Wd → Prop) (a0 : Nat) (a1 : Int32) (a2 : Int32) (w : Wd)
    (hv : wK w a0 = 11 ∧ Ct X bX10_entryAt mX10_entryAt [vR a0, vI a1] w (qR fun x2 w1 => wK w1 a0 = 11 ∧ Ct X bX10_standing mX10_standing [vR a0, vR x2, vI a2] w1 (qR fun x5 w4 => ((¬ x5 = 0) → wK w4 x5 = 10 ∧ A (wI w4 9 15 x5) w4) ∧ ((x5 = 0) → A (-1) w4)))) :
    Ct X bX10_why mX10_why [vR a0, vI a1, vI a2] w (qI A) := by
  refine Ct.of (lv := [(0, vR a0), (1, vI a1), (2, vI a2)]) rfl (Nat.le_of_ble_eq_true rfl) rfl ?_
  refine e_aload_n (pc := 0) (i := 0) dX10_why_0 rfl rfl ?_
  refine e_aload_n (pc := 1) (i := 0) dX10_why_1 rfl rfl ?_
  refine e_iload_n (pc := 2) (i := 1) dX10_why_2 rfl rfl ?_
  have k3 := hv.1
  replace hv := hv.2
  refine e_callVr (pc := 3) (ci := 10) (st := [vR a0]) (rc' := 1) (rs' := 5) (B' := bX10_entryAt) [vI a1] dX10_why_3 vRX10_133 kX10_entryAt (by decide) rfl k3 rfl rfl (Nat.le_of_ble_eq_true rfl) ⟨Nat.le_of_ble_eq_true rfl, Nat.le_of_ble_eq_true rfl⟩ rfl rfl hv (fun x2 w1 hv => ?_)
  refine e_iload_n (pc := 6) (i := 2) dX10_why_6 rfl rfl ?_
  have k6 := hv.1
  replace hv := hv.2
  refine e_callVr (pc := 7) (ci := 10) (st := []) (rc' := 0) (rs' := 0) (B' := bX10_standing) [vR x2, vI a2] dX10_why_7 vRX10_306 kX10_standing (by decide) rfl k6 rfl rfl (Nat.le_of_ble_eq_true rfl) ⟨Nat.le_of_ble_eq_true rfl, Nat.le_of_ble_eq_true rfl⟩ rfl rfl hv (fun x5 w4 hv => ?_)
  refine e_astore_n (pc := 10) (i := 3) (lv' := [(0, vR a0), (1, vI a1), (2, vI a2), (3, vR x5)]) dX10_why_10 rfl (by decide) rfl ?_
  refine e_aload_n (pc := 11) (i := 3) dX10_why_11 rfl rfl ?_
  refine e_ifnonnull (pc := 12) (tgt := 19) dX10_why_12 (by decide) (fun h7 => ?_) (fun h7 => ?_)
  · replace hv := hv.1 h7
    refine e_aload_n (pc := 19) (i := 3) dX10_why_19 rfl rfl ?_
    have k8 := hv.1
    replace hv := hv.2
    refine e_getI (pc := 20) dX10_why_20 fRX10_313 rfl k8 ?_
    exact e_ireturn (pc := 23) dX10_why_23 rfl ⟨_, rfl, hv⟩
  · replace hv := hv.2 h7
    refine e_iconst (pc := 15) (v := (-1)) dX10_why_15 (by decide) ?_
    refine e_goto (pc := 16) (tgt := 23) dX10_why_16 (by decide) ?_
    exact e_ireturn (pc := 23) dX10_why_23 rfl ⟨_, rfl, hv⟩
abbrev jX10_as_42 (X : Cx) (A : Int32 → Wd → Prop) (l0 : Nat) (l1 : Int32) (l2 : Int32) (l3 : Int32) (l4 : Int32) (l5 : Nat) (l6 : Int32) (w : Wd) : Prop := EJ X mX10_as (vw X bX10_as (qI A)) 2 7 42 [(0, vR l0), (1, vI l1), (2, vI l2), (3, vI l3), (4, vI l4), (5, vR l5), (6, vI l6)] [] w
set_option maxRecDepth 100000 in
set_option maxHeartbeats 4000000 in
theorem tX10_as_42 (X : Cx) (A : Int32 → Wd → Prop) (l0 : Nat) (l1 : Int32) (l2 : Int32) (l3 : Int32) (l4 : Int32) (l5 : Nat) (l6 : Int32) (w : Wd)
    (hv : wK w l0 = 11 ∧ Ct X bX10_settle mX10_settle [vR l0, vI l6] w (qI fun x2 w1 => ((¬ x2 = 0) → ∀ q5 : Nat, wK w1 q5 = 0 → q5 ≠ 0 → ∀ w6 : Wd, w6 = nO w1 4 q5 → Ct X bX4_init mX4_init [vR q5, vI l2, vI l3] w6 (qV fun w7 => wK w7 l0 = 11 ∧ Ct X bX10_nth mX10_nth [vR l0, vR l5, vI l1, vR q5, vI l4] w7 (qI fun x10 w9 => A x10 w9))) ∧ ((x2 = 0) → A (-1) w1))) :
    jX10_as_42 X A l0 l1 l2 l3 l4 l5 l6 w := by
  refine e_aload_n (pc := 42) (i := 0) dX10_as_42 rfl rfl ?_
  refine e_iload (pc := 43) (i := 6) dX10_as_43 rfl ?_
  have k3 := hv.1
  replace hv := hv.2
  refine e_callVi (pc := 45) (ci := 10) (st := []) (rc' := 2) (rs' := 7) (B' := bX10_settle) [vI l6] dX10_as_45 vRX10_41 kX10_settle (by decide) rfl k3 rfl rfl (Nat.le_of_ble_eq_true rfl) ⟨Nat.le_of_ble_eq_true rfl, Nat.le_of_ble_eq_true rfl⟩ rfl rfl hv (fun x2 w1 hv => ?_)
  refine e_if_ne (pc := 48) (tgt := 53) dX10_as_48 (by decide) (fun h4 => ?_) (fun h4 => ?_)
  · replace hv := hv.1 h4
    refine e_aload_n (pc := 53) (i := 0) dX10_as_53 rfl rfl ?_
    refine e_aload (pc := 54) (i := 5) dX10_as_54 rfl ?_
    refine e_iload_n (pc := 56) (i := 1) dX10_as_56 rfl rfl ?_
    refine e_new (pc := 57) (ci := 4) (rc' := 1) (rs' := 5) dX10_as_57 (by decide) (tb_a1 44 (by decide +kernel) rfl) dv4 rfl rfl (fun q5 hq5 nq5 => ?_)
    obtain ⟨w6, hw6⟩ : ∃ w6 : Wd, w6 = nO w1 4 q5 := ⟨_, rfl⟩
    replace hv := hv q5 hq5 nq5 w6 hw6
    rw [← hw6]
    refine e_dup (pc := 60) dX10_as_60 rfl ?_
    refine e_iload_n (pc := 61) (i := 2) dX10_as_61 rfl rfl ?_
    refine e_iload_n (pc := 62) (i := 3) dX10_as_62 rfl rfl ?_
    refine e_callIv (pc := 63) (st := [vR q5, vI l1, vR l5, vR l0]) (rc' := 1) (rs' := 5) (B' := bX4_init) [vI l2, vI l3] dX10_as_63 vRX10_30 kX4_init rfl rfl (K_ne (by rw [hw6]; exact nO_new)) rfl rfl (Nat.le_of_ble_eq_true rfl) ⟨Nat.le_of_ble_eq_true rfl, Nat.le_of_ble_eq_true rfl⟩ rfl rfl hv (fun w7 hv => ?_)
    refine e_iload (pc := 66) (i := 4) dX10_as_66 rfl ?_
    have k11 := hv.1
    replace hv := hv.2
    refine e_callVi (pc := 68) (ci := 10) (st := []) (rc' := 0) (rs' := 0) (B' := bX10_nth) [vR l5, vI l1, vR q5, vI l4] dX10_as_68 vRX10_302 kX10_nth (by decide) rfl k11 rfl rfl (Nat.le_of_ble_eq_true rfl) ⟨Nat.le_of_ble_eq_true rfl, Nat.le_of_ble_eq_true rfl⟩ rfl rfl hv (fun x10 w9 hv => ?_)
    exact e_ireturn (pc := 71) dX10_as_71 rfl ⟨_, rfl, hv⟩
  · replace hv := hv.2 h4
    refine e_iconst (pc := 51) (v := (-1)) dX10_as_51 (by decide) ?_
    exact e_ireturn (pc := 52) dX10_as_52 rfl ⟨_, rfl, hv⟩
set_option maxRecDepth 100000 in
set_option maxHeartbeats 4000000 in
theorem oX10_as (X : Cx) (A : Int32 → Wd → Prop) (a0 : Nat) (a1 : Int32) (a2 : Int32) (a3 : Int32) (a4 : Int32) (w : Wd)
    (hv : wK w a0 = 11 ∧ Ct X bX10_folioAt mX10_folioAt [vR a0, vI (wI w 10 10 a0)] w (qR fun x3 w2 => Ct X bX10_parcelFault mX10_parcelFault [vR x3, vI a1] w2 (qI fun x5 w4 => ((¬ x5 = 0) → jX10_as_42 X A a0 a1 a2 a3 a4 x3 x5 w4) ∧ ((x5 = 0) → wK w4 a0 = 11 ∧ Ct X bX10_isPastOrToday mX10_isPastOrToday [vR a0, vI a2] w4 (qI fun x8 w7 => ((x8 = 0) → jX10_as_42 X A a0 a1 a2 a3 a4 x3 5 w7) ∧ ((¬ x8 = 0) → wK w7 a0 = 11 ∧ Ct X bX10_isPastOrToday mX10_isPastOrToday [vR a0, vI a3] w7 (qI fun x12 w11 => ((¬ x12 = 0) → jX10_as_42 X A a0 a1 a2 a3 a4 x3 x5 w11) ∧ ((x12 = 0) → jX10_as_42 X A a0 a1 a2 a3 a4 x3 5 w11)))))))) :
    Ct X bX10_as mX10_as [vR a0, vI a1, vI a2, vI a3, vI a4] w (qI A) := by
  refine Ct.of (lv := [(0, vR a0), (1, vI a1), (2, vI a2), (3, vI a3), (4, vI a4)]) rfl (Nat.le_of_ble_eq_true rfl) rfl ?_
  refine e_aload_n (pc := 0) (i := 0) dX10_as_0 rfl rfl ?_
  refine e_aload_n (pc := 1) (i := 0) dX10_as_1 rfl rfl ?_
  have k1 := hv.1
  replace hv := hv.2
  refine e_getI (pc := 2) dX10_as_2 fRX10_316 rfl k1 ?_
  refine e_callVr (pc := 5) (ci := 10) (st := []) (rc' := 2) (rs' := 7) (B' := bX10_folioAt) [vI (wI w 10 10 a0)] dX10_as_5 vRX10_50 kX10_folioAt (by decide) rfl k1 rfl rfl (Nat.le_of_ble_eq_true rfl) ⟨Nat.le_of_ble_eq_true rfl, Nat.le_of_ble_eq_true rfl⟩ rfl rfl hv (fun x3 w2 hv => ?_)
  refine e_astore (pc := 8) (i := 5) (lv' := [(0, vR a0), (1, vI a1), (2, vI a2), (3, vI a3), (4, vI a4), (5, vR x3)]) dX10_as_8 (by decide) rfl ?_
  refine e_aload (pc := 10) (i := 5) dX10_as_10 rfl ?_
  refine e_iload_n (pc := 12) (i := 1) dX10_as_12 rfl rfl ?_
  refine e_callSi (pc := 13) (st := []) (rc' := 2) (rs' := 7) (B' := bX10_parcelFault) [vR x3, vI a1] dX10_as_13 vRX10_54 kX10_parcelFault rfl rfl (Nat.le_of_ble_eq_true rfl) ⟨Nat.le_of_ble_eq_true rfl, Nat.le_of_ble_eq_true rfl⟩ rfl rfl hv (fun x5 w4 hv => ?_)
  refine e_istore (pc := 16) (i := 6) (lv' := [(0, vR a0), (1, vI a1), (2, vI a2), (3, vI a3), (4, vI a4), (5, vR x3), (6, vI x5)]) dX10_as_16 (by decide) rfl ?_
  refine e_iload (pc := 18) (i := 6) dX10_as_18 rfl ?_
  refine e_if_ne (pc := 20) (tgt := 42) dX10_as_20 (by decide) (fun h6 => ?_) (fun h6 => ?_)
  · replace hv := hv.1 h6
    exact hv
  · replace hv := hv.2 h6
    refine e_aload_n (pc := 23) (i := 0) dX10_as_23 rfl rfl ?_
    refine e_iload_n (pc := 24) (i := 2) dX10_as_24 rfl rfl ?_
    have k9 := hv.1
    replace hv := hv.2
    refine e_callVi (pc := 25) (ci := 10) (st := []) (rc' := 2) (rs' := 7) (B' := bX10_isPastOrToday) [vI a2] dX10_as_25 vRX10_72 kX10_isPastOrToday (by decide) rfl k9 rfl rfl (Nat.le_of_ble_eq_true rfl) ⟨Nat.le_of_ble_eq_true rfl, Nat.le_of_ble_eq_true rfl⟩ rfl rfl hv (fun x8 w7 hv => ?_)
    refine e_if_eq (pc := 28) (tgt := 39) dX10_as_28 (by decide) (fun h10 => ?_) (fun h10 => ?_)
    · replace hv := hv.1 h10
      refine e_iconst (pc := 39) (v := 5) dX10_as_39 (by decide) ?_
      refine e_istore (pc := 40) (i := 6) (lv' := [(0, vR a0), (1, vI a1), (2, vI a2), (3, vI a3), (4, vI a4), (5, vR x3), (6, vI 5)]) dX10_as_40 (by decide) rfl ?_
      exact hv
    · replace hv := hv.2 h10
      refine e_aload_n (pc := 31) (i := 0) dX10_as_31 rfl rfl ?_
      refine e_iload_n (pc := 32) (i := 3) dX10_as_32 rfl rfl ?_
      have k13 := hv.1
      replace hv := hv.2
      refine e_callVi (pc := 33) (ci := 10) (st := []) (rc' := 2) (rs' := 7) (B' := bX10_isPastOrToday) [vI a3] dX10_as_33 vRX10_72 kX10_isPastOrToday (by decide) rfl k13 rfl rfl (Nat.le_of_ble_eq_true rfl) ⟨Nat.le_of_ble_eq_true rfl, Nat.le_of_ble_eq_true rfl⟩ rfl rfl hv (fun x12 w11 hv => ?_)
      refine e_if_ne (pc := 36) (tgt := 42) dX10_as_36 (by decide) (fun h14 => ?_) (fun h14 => ?_)
      · replace hv := hv.1 h14
        exact hv
      · replace hv := hv.2 h14
        refine e_iconst (pc := 39) (v := 5) dX10_as_39 (by decide) ?_
        refine e_istore (pc := 40) (i := 6) (lv' := [(0, vR a0), (1, vI a1), (2, vI a2), (3, vI a3), (4, vI a4), (5, vR x3), (6, vI 5)]) dX10_as_40 (by decide) rfl ?_
        exact hv
set_option maxRecDepth 100000 in
set_option maxHeartbeats 4000000 in
theorem oX10_choose (X : Cx) (A : Int32 → Wd → Prop) (a0 : Nat) (a1 : Int32) (w : Wd)
    (hv : wK w a0 = 11 ∧ Ct X bX10_folioAt mX10_folioAt [vR a0, vI a1] w (qR fun x2 w1 => ((¬ x2 = 0) → wK w1 a0 = 11 ∧ Ct X bX10_settle mX10_settle [vR a0, vI 0] w1 (qI fun x6 w5 => ((¬ x6 = 0) → wK w5 a0 = 11 ∧ ∀ w10 : Wd, w10 = sI w5 10 10 a0 a1 → A 1 w10) ∧ ((x6 = 0) → A 0 w5))) ∧ ((x2 = 0) → wK w1 a0 = 11 ∧ Ct X bX10_settle mX10_settle [vR a0, vI 1] w1 (qI fun x12 w11 => ((¬ x12 = 0) → wK w11 a0 = 11 ∧ ∀ w16 : Wd, w16 = sI w11 10 10 a0 a1 → A 1 w16) ∧ ((x12 = 0) → A 0 w11))))) :
    Ct X bX10_choose mX10_choose [vR a0, vI a1] w (qI A) := by
  refine Ct.of (lv := [(0, vR a0), (1, vI a1)]) rfl (Nat.le_of_ble_eq_true rfl) rfl ?_
  refine e_aload_n (pc := 0) (i := 0) dX10_choose_0 rfl rfl ?_
  refine e_aload_n (pc := 1) (i := 0) dX10_choose_1 rfl rfl ?_
  refine e_iload_n (pc := 2) (i := 1) dX10_choose_2 rfl rfl ?_
  have k3 := hv.1
  replace hv := hv.2
  refine e_callVr (pc := 3) (ci := 10) (st := [vR a0]) (rc' := 0) (rs' := 0) (B' := bX10_folioAt) [vI a1] dX10_choose_3 vRX10_50 kX10_folioAt (by decide) rfl k3 rfl rfl (Nat.le_of_ble_eq_true rfl) ⟨Nat.le_of_ble_eq_true rfl, Nat.le_of_ble_eq_true rfl⟩ rfl rfl hv (fun x2 w1 hv => ?_)
  refine e_ifnonnull (pc := 6) (tgt := 13) dX10_choose_6 (by decide) (fun h4 => ?_) (fun h4 => ?_)
  · replace hv := hv.1 h4
    refine e_iconst (pc := 13) (v := 0) dX10_choose_13 (by decide) ?_
    have k7 := hv.1
    replace hv := hv.2
    refine e_callVi (pc := 14) (ci := 10) (st := []) (rc' := 0) (rs' := 0) (B' := bX10_settle) [vI 0] dX10_choose_14 vRX10_41 kX10_settle (by decide) rfl k7 rfl rfl (Nat.le_of_ble_eq_true rfl) ⟨Nat.le_of_ble_eq_true rfl, Nat.le_of_ble_eq_true rfl⟩ rfl rfl hv (fun x6 w5 hv => ?_)
    refine e_if_ne (pc := 17) (tgt := 22) dX10_choose_17 (by decide) (fun h8 => ?_) (fun h8 => ?_)
    · replace hv := hv.1 h8
      refine e_aload_n (pc := 22) (i := 0) dX10_choose_22 rfl rfl ?_
      refine e_iload_n (pc := 23) (i := 1) dX10_choose_23 rfl rfl ?_
      have k9 := hv.1
      replace hv := hv.2
      obtain ⟨w10, hw10⟩ : ∃ w10 : Wd, w10 = sI w5 10 10 a0 a1 := ⟨_, rfl⟩
      replace hv := hv w10 hw10
      refine e_putI (pc := 24) dX10_choose_24 fRX10_316 (Or.inl rfl) rfl k9 ?_
      rw [← hw10]
      refine e_iconst (pc := 27) (v := 1) dX10_choose_27 (by decide) ?_
      exact e_zreturn (pc := 28) dX10_choose_28 rfl (Or.inr rfl) ⟨_, rfl, hv⟩
    · replace hv := hv.2 h8
      refine e_iconst (pc := 20) (v := 0) dX10_choose_20 (by decide) ?_
      exact e_zreturn (pc := 21) dX10_choose_21 rfl (Or.inl rfl) ⟨_, rfl, hv⟩
  · replace hv := hv.2 h4
    refine e_iconst (pc := 9) (v := 1) dX10_choose_9 (by decide) ?_
    refine e_goto (pc := 10) (tgt := 14) dX10_choose_10 (by decide) ?_
    have k13 := hv.1
    replace hv := hv.2
    refine e_callVi (pc := 14) (ci := 10) (st := []) (rc' := 0) (rs' := 0) (B' := bX10_settle) [vI 1] dX10_choose_14 vRX10_41 kX10_settle (by decide) rfl k13 rfl rfl (Nat.le_of_ble_eq_true rfl) ⟨Nat.le_of_ble_eq_true rfl, Nat.le_of_ble_eq_true rfl⟩ rfl rfl hv (fun x12 w11 hv => ?_)
    refine e_if_ne (pc := 17) (tgt := 22) dX10_choose_17 (by decide) (fun h14 => ?_) (fun h14 => ?_)
    · replace hv := hv.1 h14
      refine e_aload_n (pc := 22) (i := 0) dX10_choose_22 rfl rfl ?_
      refine e_iload_n (pc := 23) (i := 1) dX10_choose_23 rfl rfl ?_
      have k15 := hv.1
      replace hv := hv.2
      obtain ⟨w16, hw16⟩ : ∃ w16 : Wd, w16 = sI w11 10 10 a0 a1 := ⟨_, rfl⟩
      replace hv := hv w16 hw16
      refine e_putI (pc := 24) dX10_choose_24 fRX10_316 (Or.inl rfl) rfl k15 ?_
      rw [← hw16]
      refine e_iconst (pc := 27) (v := 1) dX10_choose_27 (by decide) ?_
      exact e_zreturn (pc := 28) dX10_choose_28 rfl (Or.inr rfl) ⟨_, rfl, hv⟩
    · replace hv := hv.2 h14
      refine e_iconst (pc := 20) (v := 0) dX10_choose_20 (by decide) ?_
      exact e_zreturn (pc := 21) dX10_choose_21 rfl (Or.inl rfl) ⟨_, rfl, hv⟩
set_option maxRecDepth 100000 in
set_option maxHeartbeats 4000000 in
theorem oX10_nth (X : Cx) (A : Int32 → Wd → Prop) (a0 : Nat) (a1 : Nat) (a2 : Int32) (a3 : Nat) (a4 : Int32) (w : Wd)
    (hv : Ct X bX10_parcelFault mX10_parcelFault [vR a1, vI a2] w (qI fun x2 w1 => wK w1 a0 = 11 ∧ Ct X bX10_settle mX10_settle [vR a0, vI x2] w1 (qI fun x4 w3 => ((x4 = 0) → A (-1) w3) ∧ ((¬ x4 = 0) → ((¬ a1 = 0) → ∀ q8 : Nat, wK w3 q8 = 0 → q8 ≠ 0 → ∀ w9 : Wd, w9 = nO w3 6 q8 → wK w9 a0 = 11 ∧ Ct X bX6_init mX6_init [vR q8, vR a1, vI a2, vR a3, vR (wR w9 10 6 a0)] w9 (qV fun w11 => wK w11 q8 = 7 ∧ Ct X bX6_arrange mX6_arrange [vR q8] w11 (qV fun w13 => wK w13 q8 = 7 ∧ Ct X bX6_wholeAt mX6_wholeAt [vR q8, vI a4] w13 (qR fun x17 w16 => ((¬ x17 = 0) → wK w16 a0 = 11 ∧ Ct X bX10_settle mX10_settle [vR a0, vI 0] w16 (qI fun x21 w20 => ((x21 = 0) → A (-1) w20) ∧ ((¬ x21 = 0) → ((¬ x17 = 0) → wK w20 x17 = 10 ∧ Ct X bX9_number mX9_number [vR x17] w20 (qI fun x26 w25 => A x26 w25)) ∧ ((x17 = 0) → A (-1) w20)))) ∧ ((x17 = 0) → wK w16 a0 = 11 ∧ Ct X bX10_settle mX10_settle [vR a0, vI 5] w16 (qI fun x29 w28 => ((x29 = 0) → A (-1) w28) ∧ ((¬ x29 = 0) → ((¬ x17 = 0) → wK w28 x17 = 10 ∧ Ct X bX9_number mX9_number [vR x17] w28 (qI fun x34 w33 => A x34 w33)) ∧ ((x17 = 0) → A (-1) w28)))))))) ∧ ((a1 = 0) → A (-1) w3))))) :
    Ct X bX10_nth mX10_nth [vR a0, vR a1, vI a2, vR a3, vI a4] w (qI A) := by
  refine Ct.of (lv := [(0, vR a0), (1, vR a1), (2, vI a2), (3, vR a3), (4, vI a4)]) rfl (Nat.le_of_ble_eq_true rfl) rfl ?_
  refine e_aload_n (pc := 0) (i := 0) dX10_nth_0 rfl rfl ?_
  refine e_aload_n (pc := 1) (i := 1) dX10_nth_1 rfl rfl ?_
  refine e_iload_n (pc := 2) (i := 2) dX10_nth_2 rfl rfl ?_
  refine e_callSi (pc := 3) (st := [vR a0]) (rc' := 1) (rs' := 5) (B' := bX10_parcelFault) [vR a1, vI a2] dX10_nth_3 vRX10_54 kX10_parcelFault rfl rfl (Nat.le_of_ble_eq_true rfl) ⟨Nat.le_of_ble_eq_true rfl, Nat.le_of_ble_eq_true rfl⟩ rfl rfl hv (fun x2 w1 hv => ?_)
  have k5 := hv.1
  replace hv := hv.2
  refine e_callVi (pc := 6) (ci := 10) (st := []) (rc' := 1) (rs' := 5) (B' := bX10_settle) [vI x2] dX10_nth_6 vRX10_41 kX10_settle (by decide) rfl k5 rfl rfl (Nat.le_of_ble_eq_true rfl) ⟨Nat.le_of_ble_eq_true rfl, Nat.le_of_ble_eq_true rfl⟩ rfl rfl hv (fun x4 w3 hv => ?_)
  refine e_if_eq (pc := 9) (tgt := 16) dX10_nth_9 (by decide) (fun h6 => ?_) (fun h6 => ?_)
  · replace hv := hv.1 h6
    refine e_iconst (pc := 16) (v := (-1)) dX10_nth_16 (by decide) ?_
    exact e_ireturn (pc := 17) dX10_nth_17 rfl ⟨_, rfl, hv⟩
  · replace hv := hv.2 h6
    refine e_aload_n (pc := 12) (i := 1) dX10_nth_12 rfl rfl ?_
    refine e_ifnonnull (pc := 13) (tgt := 18) dX10_nth_13 (by decide) (fun h7 => ?_) (fun h7 => ?_)
    · replace hv := hv.1 h7
      refine e_new (pc := 18) (ci := 6) (rc' := 0) (rs' := 0) dX10_nth_18 (by decide) (tb_a3 149 (by decide +kernel) rfl) dv6 rfl rfl (fun q8 hq8 nq8 => ?_)
      obtain ⟨w9, hw9⟩ : ∃ w9 : Wd, w9 = nO w3 6 q8 := ⟨_, rfl⟩
      replace hv := hv q8 hq8 nq8 w9 hw9
      rw [← hw9]
      refine e_dup (pc := 21) dX10_nth_21 rfl ?_
      refine e_aload_n (pc := 22) (i := 1) dX10_nth_22 rfl rfl ?_
      refine e_iload_n (pc := 23) (i := 2) dX10_nth_23 rfl rfl ?_
      refine e_aload_n (pc := 24) (i := 3) dX10_nth_24 rfl rfl ?_
      refine e_aload_n (pc := 25) (i := 0) dX10_nth_25 rfl rfl ?_
      have k10 := hv.1
      replace hv := hv.2
      refine e_getR (pc := 26) dX10_nth_26 fRX10_233 rfl k10 ?_
      refine e_callIv (pc := 29) (st := [vR q8]) (rc' := 0) (rs' := 0) (B' := bX6_init) [vR a1, vI a2, vR a3, vR (wR w9 10 6 a0)] dX10_nth_29 vRX10_293 kX6_init rfl rfl (K_ne (by rw [hw9]; exact nO_new)) rfl rfl (Nat.le_of_ble_eq_true rfl) ⟨Nat.le_of_ble_eq_true rfl, Nat.le_of_ble_eq_true rfl⟩ rfl rfl hv (fun w11 hv => ?_)
      refine e_astore (pc := 32) (i := 5) (lv' := [(0, vR a0), (1, vR a1), (2, vI a2), (3, vR a3), (4, vI a4), (5, vR q8)]) dX10_nth_32 (by decide) rfl ?_
      refine e_aload (pc := 34) (i := 5) dX10_nth_34 rfl ?_
      have k15 := hv.1
      replace hv := hv.2
      refine e_callVv (pc := 36) (ci := 6) (st := []) (rc' := 0) (rs' := 0) (B' := bX6_arrange) [] dX10_nth_36 vRX10_296 kX6_arrange (by decide) rfl k15 rfl rfl (Nat.le_of_ble_eq_true rfl) ⟨Nat.le_of_ble_eq_true rfl, Nat.le_of_ble_eq_true rfl⟩ rfl rfl hv (fun w13 hv => ?_)
      refine e_aload (pc := 39) (i := 5) dX10_nth_39 rfl ?_
      refine e_iload (pc := 41) (i := 4) dX10_nth_41 rfl ?_
      have k18 := hv.1
      replace hv := hv.2
      refine e_callVr (pc := 43) (ci := 6) (st := []) (rc' := 0) (rs' := 0) (B' := bX6_wholeAt) [vI a4] dX10_nth_43 vRX10_319 kX6_wholeAt (by decide) rfl k18 rfl rfl (Nat.le_of_ble_eq_true rfl) ⟨Nat.le_of_ble_eq_true rfl, Nat.le_of_ble_eq_true rfl⟩ rfl rfl hv (fun x17 w16 hv => ?_)
      refine e_astore (pc := 46) (i := 6) (lv' := [(0, vR a0), (1, vR a1), (2, vI a2), (3, vR a3), (4, vI a4), (5, vR q8), (6, vR x17)]) dX10_nth_46 (by decide) rfl ?_
      refine e_aload_n (pc := 48) (i := 0) dX10_nth_48 rfl rfl ?_
      refine e_aload (pc := 49) (i := 6) dX10_nth_49 rfl ?_
      refine e_ifnonnull (pc := 51) (tgt := 58) dX10_nth_51 (by decide) (fun h19 => ?_) (fun h19 => ?_)
      · replace hv := hv.1 h19
        refine e_iconst (pc := 58) (v := 0) dX10_nth_58 (by decide) ?_
        have k22 := hv.1
        replace hv := hv.2
        refine e_callVi (pc := 59) (ci := 10) (st := []) (rc' := 0) (rs' := 0) (B' := bX10_settle) [vI 0] dX10_nth_59 vRX10_41 kX10_settle (by decide) rfl k22 rfl rfl (Nat.le_of_ble_eq_true rfl) ⟨Nat.le_of_ble_eq_true rfl, Nat.le_of_ble_eq_true rfl⟩ rfl rfl hv (fun x21 w20 hv => ?_)
        refine e_if_eq (pc := 62) (tgt := 70) dX10_nth_62 (by decide) (fun h23 => ?_) (fun h23 => ?_)
        · replace hv := hv.1 h23
          refine e_iconst (pc := 70) (v := (-1)) dX10_nth_70 (by decide) ?_
          exact e_ireturn (pc := 71) dX10_nth_71 rfl ⟨_, rfl, hv⟩
        · replace hv := hv.2 h23
          refine e_aload (pc := 65) (i := 6) dX10_nth_65 rfl ?_
          refine e_ifnonnull (pc := 67) (tgt := 72) dX10_nth_67 (by decide) (fun h24 => ?_) (fun h24 => ?_)
          · replace hv := hv.1 h24
            refine e_aload (pc := 72) (i := 6) dX10_nth_72 rfl ?_
            have k27 := hv.1
            replace hv := hv.2
            refine e_callVi (pc := 74) (ci := 9) (st := []) (rc' := 0) (rs' := 0) (B' := bX9_number) [] dX10_nth_74 vRX10_323 kX9_number (by decide) rfl k27 rfl rfl (Nat.le_of_ble_eq_true rfl) ⟨Nat.le_of_ble_eq_true rfl, Nat.le_of_ble_eq_true rfl⟩ rfl rfl hv (fun x26 w25 hv => ?_)
            exact e_ireturn (pc := 77) dX10_nth_77 rfl ⟨_, rfl, hv⟩
          · replace hv := hv.2 h24
            refine e_iconst (pc := 70) (v := (-1)) dX10_nth_70 (by decide) ?_
            exact e_ireturn (pc := 71) dX10_nth_71 rfl ⟨_, rfl, hv⟩
      · replace hv := hv.2 h19
        refine e_iconst (pc := 54) (v := 5) dX10_nth_54 (by decide) ?_
        refine e_goto (pc := 55) (tgt := 59) dX10_nth_55 (by decide) ?_
        have k30 := hv.1
        replace hv := hv.2
        refine e_callVi (pc := 59) (ci := 10) (st := []) (rc' := 0) (rs' := 0) (B' := bX10_settle) [vI 5] dX10_nth_59 vRX10_41 kX10_settle (by decide) rfl k30 rfl rfl (Nat.le_of_ble_eq_true rfl) ⟨Nat.le_of_ble_eq_true rfl, Nat.le_of_ble_eq_true rfl⟩ rfl rfl hv (fun x29 w28 hv => ?_)
        refine e_if_eq (pc := 62) (tgt := 70) dX10_nth_62 (by decide) (fun h31 => ?_) (fun h31 => ?_)
        · replace hv := hv.1 h31
          refine e_iconst (pc := 70) (v := (-1)) dX10_nth_70 (by decide) ?_
          exact e_ireturn (pc := 71) dX10_nth_71 rfl ⟨_, rfl, hv⟩
        · replace hv := hv.2 h31
          refine e_aload (pc := 65) (i := 6) dX10_nth_65 rfl ?_
          refine e_ifnonnull (pc := 67) (tgt := 72) dX10_nth_67 (by decide) (fun h32 => ?_) (fun h32 => ?_)
          · replace hv := hv.1 h32
            refine e_aload (pc := 72) (i := 6) dX10_nth_72 rfl ?_
            have k35 := hv.1
            replace hv := hv.2
            refine e_callVi (pc := 74) (ci := 9) (st := []) (rc' := 0) (rs' := 0) (B' := bX9_number) [] dX10_nth_74 vRX10_323 kX9_number (by decide) rfl k35 rfl rfl (Nat.le_of_ble_eq_true rfl) ⟨Nat.le_of_ble_eq_true rfl, Nat.le_of_ble_eq_true rfl⟩ rfl rfl hv (fun x34 w33 hv => ?_)
            exact e_ireturn (pc := 77) dX10_nth_77 rfl ⟨_, rfl, hv⟩
          · replace hv := hv.2 h32
            refine e_iconst (pc := 70) (v := (-1)) dX10_nth_70 (by decide) ?_
            exact e_ireturn (pc := 71) dX10_nth_71 rfl ⟨_, rfl, hv⟩
    · replace hv := hv.2 h7
      refine e_iconst (pc := 16) (v := (-1)) dX10_nth_16 (by decide) ?_
      exact e_ireturn (pc := 17) dX10_nth_17 rfl ⟨_, rfl, hv⟩
abbrev jX10_standing_33 (X : Cx) (A : Nat → Wd → Prop) (l0 : Nat) (l1 : Nat) (l2 : Int32) (l3 : Int32) (w : Wd) : Prop := EJ X mX10_standing (vw X bX10_standing (qR A)) 1 5 33 [(0, vR l0), (1, vR l1), (2, vI l2), (3, vI l3)] [] w
set_option maxRecDepth 100000 in
set_option maxHeartbeats 4000000 in
theorem tX10_standing_33 (X : Cx) (A : Nat → Wd → Prop) (l0 : Nat) (l1 : Nat) (l2 : Int32) (l3 : Int32) (w : Wd)
    (hv : wK w l0 = 11 ∧ Ct X bX10_settle mX10_settle [vR l0, vI l3] w (qI fun x2 w1 => ((x2 = 0) → A 0 w1) ∧ ((¬ x2 = 0) → ((¬ l1 = 0) → ∀ q6 : Nat, wK w1 q6 = 0 → q6 ≠ 0 → ∀ w7 : Wd, w7 = nO w1 6 q6 → wK w7 l1 = 3 ∧ wK w7 (wR w7 2 1 l1) = 10 ∧ wK w7 l0 = 11 ∧ Ct X bX6_init mX6_init [vR q6, vR (wR w7 9 0 (wR w7 2 1 l1)), vI l2, vR (wR w7 10 8 l0), vR (wR w7 10 6 l0)] w7 (qV fun w11 => wK w11 q6 = 7 ∧ Ct X bX6_arrange mX6_arrange [vR q6] w11 (qV fun w13 => wK w13 l1 = 3 ∧ A (wR w13 2 1 l1) w13))) ∧ ((l1 = 0) → A 0 w1)))) :
    jX10_standing_33 X A l0 l1 l2 l3 w := by
  refine e_aload_n (pc := 33) (i := 0) dX10_standing_33 rfl rfl ?_
  refine e_iload_n (pc := 34) (i := 3) dX10_standing_34 rfl rfl ?_
  have k3 := hv.1
  replace hv := hv.2
  refine e_callVi (pc := 35) (ci := 10) (st := []) (rc' := 1) (rs' := 5) (B' := bX10_settle) [vI l3] dX10_standing_35 vRX10_41 kX10_settle (by decide) rfl k3 rfl rfl (Nat.le_of_ble_eq_true rfl) ⟨Nat.le_of_ble_eq_true rfl, Nat.le_of_ble_eq_true rfl⟩ rfl rfl hv (fun x2 w1 hv => ?_)
  refine e_if_eq (pc := 38) (tgt := 45) dX10_standing_38 (by decide) (fun h4 => ?_) (fun h4 => ?_)
  · replace hv := hv.1 h4
    refine e_null (pc := 45) dX10_standing_45 ?_
    exact e_areturn (pc := 46) dX10_standing_46 rfl ⟨_, rfl, hv⟩
  · replace hv := hv.2 h4
    refine e_aload_n (pc := 41) (i := 1) dX10_standing_41 rfl rfl ?_
    refine e_ifnonnull (pc := 42) (tgt := 47) dX10_standing_42 (by decide) (fun h5 => ?_) (fun h5 => ?_)
    · replace hv := hv.1 h5
      refine e_new (pc := 47) (ci := 6) (rc' := 0) (rs' := 0) dX10_standing_47 (by decide) (tb_a3 149 (by decide +kernel) rfl) dv6 rfl rfl (fun q6 hq6 nq6 => ?_)
      obtain ⟨w7, hw7⟩ : ∃ w7 : Wd, w7 = nO w1 6 q6 := ⟨_, rfl⟩
      replace hv := hv q6 hq6 nq6 w7 hw7
      rw [← hw7]
      refine e_dup (pc := 50) dX10_standing_50 rfl ?_
      refine e_aload_n (pc := 51) (i := 1) dX10_standing_51 rfl rfl ?_
      have k8 := hv.1
      replace hv := hv.2
      refine e_getR (pc := 52) dX10_standing_52 fRX10_141 rfl k8 ?_
      have k9 := hv.1
      replace hv := hv.2
      refine e_getR (pc := 55) dX10_standing_55 fRX10_326 rfl k9 ?_
      refine e_iload_n (pc := 58) (i := 2) dX10_standing_58 rfl rfl ?_
      refine e_aload_n (pc := 59) (i := 0) dX10_standing_59 rfl rfl ?_
      have k10 := hv.1
      replace hv := hv.2
      refine e_getR (pc := 60) dX10_standing_60 fRX10_33 rfl k10 ?_
      refine e_aload_n (pc := 63) (i := 0) dX10_standing_63 rfl rfl ?_
      refine e_getR (pc := 64) dX10_standing_64 fRX10_233 rfl k10 ?_
      refine e_callIv (pc := 67) (st := [vR q6]) (rc' := 0) (rs' := 0) (B' := bX6_init) [vR (wR w7 9 0 (wR w7 2 1 l1)), vI l2, vR (wR w7 10 8 l0), vR (wR w7 10 6 l0)] dX10_standing_67 vRX10_293 kX6_init rfl rfl (K_ne (by rw [hw7]; exact nO_new)) rfl rfl (Nat.le_of_ble_eq_true rfl) ⟨Nat.le_of_ble_eq_true rfl, Nat.le_of_ble_eq_true rfl⟩ rfl rfl hv (fun w11 hv => ?_)
      refine e_astore (pc := 70) (i := 4) (lv' := [(0, vR l0), (1, vR l1), (2, vI l2), (3, vI l3), (4, vR q6)]) dX10_standing_70 (by decide) rfl ?_
      refine e_aload (pc := 72) (i := 4) dX10_standing_72 rfl ?_
      have k15 := hv.1
      replace hv := hv.2
      refine e_callVv (pc := 74) (ci := 6) (st := []) (rc' := 0) (rs' := 0) (B' := bX6_arrange) [] dX10_standing_74 vRX10_296 kX6_arrange (by decide) rfl k15 rfl rfl (Nat.le_of_ble_eq_true rfl) ⟨Nat.le_of_ble_eq_true rfl, Nat.le_of_ble_eq_true rfl⟩ rfl rfl hv (fun w13 hv => ?_)
      refine e_aload_n (pc := 77) (i := 1) dX10_standing_77 rfl rfl ?_
      have k16 := hv.1
      replace hv := hv.2
      refine e_getR (pc := 78) dX10_standing_78 fRX10_141 rfl k16 ?_
      exact e_areturn (pc := 81) dX10_standing_81 rfl ⟨_, rfl, hv⟩
    · replace hv := hv.2 h5
      refine e_null (pc := 45) dX10_standing_45 ?_
      exact e_areturn (pc := 46) dX10_standing_46 rfl ⟨_, rfl, hv⟩
set_option maxRecDepth 100000 in
set_option maxHeartbeats 4000000 in
theorem oX10_standing (X : Cx) (A : Nat → Wd → Prop) (a0 : Nat) (a1 : Nat) (a2 : Int32) (w : Wd)
    (hv : wK w a0 = 11 ∧ Ct X bX10_lieFault mX10_lieFault [vR a0, vR a1, vI a2] w (qI fun x2 w1 => ((¬ x2 = 0) → jX10_standing_33 X A a0 a1 a2 x2 w1) ∧ ((x2 = 0) → ((a1 = 0) → jX10_standing_33 X A a0 a1 a2 x2 w1) ∧ ((¬ a1 = 0) → wK w1 a1 = 3 ∧ wK w1 (wR w1 2 1 a1) = 10 ∧ wK w1 (wR w1 9 3 (wR w1 2 1 a1)) = 9 ∧ ((¬ (wI w1 8 0 (wR w1 9 3 (wR w1 2 1 a1))) = 6) → jX10_standing_33 X A a0 a1 a2 x2 w1) ∧ (((wI w1 8 0 (wR w1 9 3 (wR w1 2 1 a1))) = 6) → jX10_standing_33 X A a0 a1 a2 6 w1))))) :
    Ct X bX10_standing mX10_standing [vR a0, vR a1, vI a2] w (qR A) := by
  refine Ct.of (lv := [(0, vR a0), (1, vR a1), (2, vI a2)]) rfl (Nat.le_of_ble_eq_true rfl) rfl ?_
  refine e_aload_n (pc := 0) (i := 0) dX10_standing_0 rfl rfl ?_
  refine e_aload_n (pc := 1) (i := 1) dX10_standing_1 rfl rfl ?_
  refine e_iload_n (pc := 2) (i := 2) dX10_standing_2 rfl rfl ?_
  have k3 := hv.1
  replace hv := hv.2
  refine e_callVi (pc := 3) (ci := 10) (st := []) (rc' := 1) (rs' := 5) (B' := bX10_lieFault) [vR a1, vI a2] dX10_standing_3 vRX10_261 kX10_lieFault (by decide) rfl k3 rfl rfl (Nat.le_of_ble_eq_true rfl) ⟨Nat.le_of_ble_eq_true rfl, Nat.le_of_ble_eq_true rfl⟩ rfl rfl hv (fun x2 w1 hv => ?_)
  refine e_istore_n (pc := 6) (i := 3) (lv' := [(0, vR a0), (1, vR a1), (2, vI a2), (3, vI x2)]) dX10_standing_6 rfl (by decide) rfl ?_
  refine e_iload_n (pc := 7) (i := 3) dX10_standing_7 rfl rfl ?_
  refine e_if_ne (pc := 8) (tgt := 33) dX10_standing_8 (by decide) (fun h4 => ?_) (fun h4 => ?_)
  · replace hv := hv.1 h4
    exact hv
  · replace hv := hv.2 h4
    refine e_aload_n (pc := 11) (i := 1) dX10_standing_11 rfl rfl ?_
    refine e_ifnull (pc := 12) (tgt := 33) dX10_standing_12 (by decide) (fun h5 => ?_) (fun h5 => ?_)
    · replace hv := hv.1 h5
      exact hv
    · replace hv := hv.2 h5
      refine e_aload_n (pc := 15) (i := 1) dX10_standing_15 rfl rfl ?_
      have k6 := hv.1
      replace hv := hv.2
      refine e_getR (pc := 16) dX10_standing_16 fRX10_141 rfl k6 ?_
      have k7 := hv.1
      replace hv := hv.2
      refine e_getR (pc := 19) dX10_standing_19 fRX10_145 rfl k7 ?_
      have k8 := hv.1
      replace hv := hv.2
      refine e_getI (pc := 22) dX10_standing_22 fRX10_157 rfl k8 ?_
      refine e_bipush (pc := 25) (v := 6) dX10_standing_25 (by decide) ?_
      refine e_icmp_ne (pc := 27) (tgt := 33) dX10_standing_27 (by decide) (fun h9 => ?_) (fun h9 => ?_)
      · replace hv := hv.1 h9
        exact hv
      · replace hv := hv.2 h9
        refine e_bipush (pc := 30) (v := 6) dX10_standing_30 (by decide) ?_
        refine e_istore_n (pc := 32) (i := 3) (lv' := [(0, vR a0), (1, vR a1), (2, vI a2), (3, vI 6)]) dX10_standing_32 rfl (by decide) rfl ?_
        exact hv
set_option maxRecDepth 100000 in
set_option maxHeartbeats 4000000 in
theorem oX10_sale (X : Cx) (A : Int64 → Wd → Prop) (a0 : Nat) (a1 : Int32) (a2 : Int32) (a3 : Int64) (a5 : Int64) (w : Wd)
    (hv : wK w a0 = 11 ∧ Ct X bX10_folioAt mX10_folioAt [vR a0, vI a1] w (qR fun x2 w1 => wK w1 a0 = 11 ∧ Ct X bX10_offer mX10_offer [vR a0, vR x2, vI a2, vJ a3, vJ a5] w1 (qR fun x5 w4 => ((¬ x5 = 0) → wK w4 a0 = 11 ∧ A (wJ w4 10 11 a0) w4) ∧ ((x5 = 0) → A (-1) w4)))) :
    Ct X bX10_sale mX10_sale [vR a0, vI a1, vI a2, vJ a3, vJ a5] w (qJ A) := by
  refine Ct.of (lv := [(0, vR a0), (1, vI a1), (2, vI a2), (3, vJ a3), (5, vJ a5)]) rfl (Nat.le_of_ble_eq_true rfl) rfl ?_
  refine e_aload_n (pc := 0) (i := 0) dX10_sale_0 rfl rfl ?_
  refine e_aload_n (pc := 1) (i := 0) dX10_sale_1 rfl rfl ?_
  refine e_iload_n (pc := 2) (i := 1) dX10_sale_2 rfl rfl ?_
  have k3 := hv.1
  replace hv := hv.2
  refine e_callVr (pc := 3) (ci := 10) (st := [vR a0]) (rc' := 2) (rs' := 7) (B' := bX10_folioAt) [vI a1] dX10_sale_3 vRX10_50 kX10_folioAt (by decide) rfl k3 rfl rfl (Nat.le_of_ble_eq_true rfl) ⟨Nat.le_of_ble_eq_true rfl, Nat.le_of_ble_eq_true rfl⟩ rfl rfl hv (fun x2 w1 hv => ?_)
  refine e_iload_n (pc := 6) (i := 2) dX10_sale_6 rfl rfl ?_
  refine e_lload_n (pc := 7) (i := 3) dX10_sale_7 rfl rfl ?_
  refine e_lload (pc := 8) (i := 5) dX10_sale_8 rfl ?_
  have k6 := hv.1
  replace hv := hv.2
  refine e_callVr (pc := 10) (ci := 10) (st := []) (rc' := 0) (rs' := 0) (B' := bX10_offer) [vR x2, vI a2, vJ a3, vJ a5] dX10_sale_10 vRX10_330 kX10_offer (by decide) rfl k6 rfl rfl (Nat.le_of_ble_eq_true rfl) ⟨Nat.le_of_ble_eq_true rfl, Nat.le_of_ble_eq_true rfl⟩ rfl rfl hv (fun x5 w4 hv => ?_)
  refine e_astore (pc := 13) (i := 7) (lv' := [(0, vR a0), (1, vI a1), (2, vI a2), (3, vJ a3), (5, vJ a5), (7, vR x5)]) dX10_sale_13 (by decide) rfl ?_
  refine e_aload (pc := 15) (i := 7) dX10_sale_15 rfl ?_
  refine e_ifnonnull (pc := 17) (tgt := 26) dX10_sale_17 (by decide) (fun h7 => ?_) (fun h7 => ?_)
  · replace hv := hv.1 h7
    refine e_aload_n (pc := 26) (i := 0) dX10_sale_26 rfl rfl ?_
    have k8 := hv.1
    replace hv := hv.2
    refine e_getJ (pc := 27) dX10_sale_27 fRX10_334 rfl k8 ?_
    exact e_lreturn (pc := 30) dX10_sale_30 rfl ⟨_, rfl, hv⟩
  · replace hv := hv.2 h7
    refine e_ldc2 (pc := 20) (v := -1) dX10_sale_20 (tb_a1 195 (by decide +kernel) rfl) ?_
    refine e_goto (pc := 23) (tgt := 30) dX10_sale_23 (by decide) ?_
    exact e_lreturn (pc := 30) dX10_sale_30 rfl ⟨_, rfl, hv⟩
set_option maxRecDepth 100000 in
set_option maxHeartbeats 4000000 in
theorem oX10_sell (X : Cx) (A : Int64 → Wd → Prop) (mc ms : Nat) (a0 : Nat) (a1 : Int32) (a2 : Int32) (a3 : Int64) (a5 : Int64) (w : Wd)
    (hv : wK w a0 = 11 ∧ Ct X bX10_folioAt mX10_folioAt [vR a0, vI a1] w (qR fun x2 w1 => ∃ rc4 rs5 : Nat, (mc = rc4 + 2 ∧ ms = rs5 + 7) ∧ wK w1 a0 = 11 ∧ Ct X bX10_offer mX10_offer [vR a0, vR x2, vI a2, vJ a3, vJ a5] w1 (qR fun x8 w7 => ((¬ x8 = 0) → ∃ mc14 ms15 rc11 rs12 : Nat, (rc4 = rc11 + mc14 ∧ rs5 = rs12 + ms15) ∧ wK w7 x8 = 8 ∧ Ct X (4, mc14, ms15) mX7_carryOut [vR x8] w7 (qV fun w16 => wK w16 a0 = 11 ∧ ∀ w20 : Wd, w20 = sI w16 10 12 a0 ((wI w16 10 12 a0) + 1) → A (wJ w20 10 11 a0) w20)) ∧ ((x8 = 0) → A (-1) w7)))) :
    Ct X (7, mc, ms) mX10_sell [vR a0, vI a1, vI a2, vJ a3, vJ a5] w (qJ A) := by
  refine Ct.of (lv := [(0, vR a0), (1, vI a1), (2, vI a2), (3, vJ a3), (5, vJ a5)]) rfl (Nat.le_of_ble_eq_true rfl) rfl ?_
  refine e_aload_n (pc := 0) (i := 0) dX10_sell_0 rfl rfl ?_
  refine e_aload_n (pc := 1) (i := 0) dX10_sell_1 rfl rfl ?_
  refine e_iload_n (pc := 2) (i := 1) dX10_sell_2 rfl rfl ?_
  have k3 := hv.1
  replace hv := hv.2
  refine e_callVr (pc := 3) (ci := 10) (st := [vR a0]) (rc' := mc) (rs' := ms) (B' := bX10_folioAt) [vI a1] dX10_sell_3 vRX10_50 kX10_folioAt (by decide) rfl k3 rfl rfl (Nat.le_of_ble_eq_true rfl) ⟨Nat.le_of_ble_eq_true rfl, Nat.le_of_ble_eq_true rfl⟩ rfl rfl hv (fun x2 w1 hv => ?_)
  refine e_iload_n (pc := 6) (i := 2) dX10_sell_6 rfl rfl ?_
  refine e_lload_n (pc := 7) (i := 3) dX10_sell_7 rfl rfl ?_
  refine e_lload (pc := 8) (i := 5) dX10_sell_8 rfl ?_
  obtain ⟨rc4, rs5, hr6, hv⟩ := hv
  have k9 := hv.1
  replace hv := hv.2
  refine e_callVr (pc := 10) (ci := 10) (st := []) (rc' := rc4) (rs' := rs5) (B' := bX10_offer) [vR x2, vI a2, vJ a3, vJ a5] dX10_sell_10 vRX10_330 kX10_offer (by decide) rfl k9 rfl rfl (Nat.le_of_ble_eq_true rfl) ⟨Nat.le_of_ble_eq_true rfl, Nat.le_of_ble_eq_true rfl⟩ hr6.1 hr6.2 hv (fun x8 w7 hv => ?_)
  refine e_astore (pc := 13) (i := 7) (lv' := [(0, vR a0), (1, vI a1), (2, vI a2), (3, vJ a3), (5, vJ a5), (7, vR x8)]) dX10_sell_13 (by decide) rfl ?_
  refine e_aload (pc := 15) (i := 7) dX10_sell_15 rfl ?_
  refine e_ifnonnull (pc := 17) (tgt := 24) dX10_sell_17 (by decide) (fun h10 => ?_) (fun h10 => ?_)
  · replace hv := hv.1 h10
    refine e_aload (pc := 24) (i := 7) dX10_sell_24 rfl ?_
    obtain ⟨mc14, ms15, rc11, rs12, hr13, hv⟩ := hv
    have k18 := hv.1
    replace hv := hv.2
    refine e_callVv (pc := 26) (ci := 7) (st := []) (rc' := rc11) (rs' := rs12) (B' := (4, mc14, ms15)) [] dX10_sell_26 vRX10_337 kX7_carryOut (by decide) rfl k18 rfl rfl (Nat.le_of_ble_eq_true rfl) ⟨Nat.le_of_ble_eq_true rfl, Nat.le_of_ble_eq_true rfl⟩ hr13.1 hr13.2 hv (fun w16 hv => ?_)
    refine e_aload_n (pc := 29) (i := 0) dX10_sell_29 rfl rfl ?_
    refine e_dup (pc := 30) dX10_sell_30 rfl ?_
    have k19 := hv.1
    replace hv := hv.2
    refine e_getI (pc := 31) dX10_sell_31 fRX10_342 rfl k19 ?_
    refine e_iconst (pc := 34) (v := 1) dX10_sell_34 (by decide) ?_
    refine e_iadd (pc := 35) dX10_sell_35 ?_
    obtain ⟨w20, hw20⟩ : ∃ w20 : Wd, w20 = sI w16 10 12 a0 ((wI w16 10 12 a0) + 1) := ⟨_, rfl⟩
    replace hv := hv w20 hw20
    refine e_putI (pc := 36) dX10_sell_36 fRX10_342 (Or.inl rfl) rfl k19 ?_
    rw [← hw20]
    refine e_aload_n (pc := 39) (i := 0) dX10_sell_39 rfl rfl ?_
    have k21 : wK w20 a0 = 11 := (by rw [hw20]; exact k19)
    refine e_getJ (pc := 40) dX10_sell_40 fRX10_334 rfl k21 ?_
    exact e_lreturn (pc := 43) dX10_sell_43 rfl ⟨_, rfl, hv⟩
  · replace hv := hv.2 h10
    refine e_ldc2 (pc := 20) (v := -1) dX10_sell_20 (tb_a1 195 (by decide +kernel) rfl) ?_
    exact e_lreturn (pc := 23) dX10_sell_23 rfl ⟨_, rfl, hv⟩
abbrev jX10_offer_24 (X : Cx) (A : Nat → Wd → Prop) (l0 : Nat) (l1 : Nat) (l2 : Int32) (l3 : Int64) (l5 : Int64) (l7 : Int32) (w : Wd) : Prop := EJ X mX10_offer (vw X bX10_offer (qR A)) 2 7 24 [(0, vR l0), (1, vR l1), (2, vI l2), (3, vJ l3), (5, vJ l5), (7, vI l7)] [] w
set_option maxRecDepth 100000 in
set_option maxHeartbeats 4000000 in
theorem tX10_offer_24 (X : Cx) (A : Nat → Wd → Prop) (l0 : Nat) (l1 : Nat) (l2 : Int32) (l3 : Int64) (l5 : Int64) (l7 : Int32) (w : Wd)
    (hv : wK w l0 = 11 ∧ (((wI w 10 4 l0) ≤ l7) → ∀ q3 : Nat, wK w q3 = 0 → q3 ≠ 0 → ∀ w4 : Wd, w4 = nO w 6 q3 → Ct X bX6_init mX6_init [vR q3, vR l1, vI l2, vR (wR w4 10 8 l0), vR (wR w4 10 6 l0)] w4 (qV fun w6 => wK w6 q3 = 7 ∧ Ct X bX6_arrange mX6_arrange [vR q3] w6 (qV fun w8 => ∀ q11 : Nat, wK w8 q11 = 0 → q11 ≠ 0 → ∀ w12 : Wd, w12 = nO w8 7 q11 → Ct X bX7_init mX7_init [vR q11, vR q3, vJ (l3 - l5)] w12 (qV fun w13 => wK w13 q11 = 8 ∧ Ct X bX7_distribute mX7_distribute [vR q11] w13 (qV fun w15 => wK w15 q11 = 8 ∧ wK w15 l0 = 11 ∧ ∀ w20 : Wd, w20 = sJ w15 10 11 l0 (wJ w15 7 1 q11) → A q11 w20))))) ∧ ((¬ (wI w 10 4 l0) ≤ l7) → wK w (wR w 10 1 l0) = 17 ∧ vp_in l7 (wL w (wR w 10 1 l0)) ∧ (((xR w (wR w 10 1 l0) l7.toNatClampNeg) = 0) → jX10_offer_24 X A l0 l1 l2 l3 l5 (l7 + 1) w) ∧ ((¬ (xR w (wR w 10 1 l0) l7.toNatClampNeg) = 0) → wK w (xR w (wR w 10 1 l0) l7.toNatClampNeg) = 3 ∧ ∀ w25 : Wd, w25 = sJ w 2 11 (xR w (wR w 10 1 l0) l7.toNatClampNeg) 0 → jX10_offer_24 X A l0 l1 l2 l3 l5 (l7 + 1) w25))) :
    jX10_offer_24 X A l0 l1 l2 l3 l5 l7 w := by
  refine e_iload (pc := 24) (i := 7) dX10_offer_24 rfl ?_
  refine e_aload_n (pc := 26) (i := 0) dX10_offer_26 rfl rfl ?_
  have k1 := hv.1
  replace hv := hv.2
  refine e_getI (pc := 27) dX10_offer_27 fRX10_98 rfl k1 ?_
  refine e_icmp_ge (pc := 30) (tgt := 59) dX10_offer_30 (by decide) (fun h2 => ?_) (fun h2 => ?_)
  · replace hv := hv.1 h2
    refine e_new (pc := 59) (ci := 6) (rc' := 1) (rs' := 2) dX10_offer_59 (by decide) (tb_a3 149 (by decide +kernel) rfl) dv6 rfl rfl (fun q3 hq3 nq3 => ?_)
    obtain ⟨w4, hw4⟩ : ∃ w4 : Wd, w4 = nO w 6 q3 := ⟨_, rfl⟩
    replace hv := hv q3 hq3 nq3 w4 hw4
    rw [← hw4]
    refine e_dup (pc := 62) dX10_offer_62 rfl ?_
    refine e_aload_n (pc := 63) (i := 1) dX10_offer_63 rfl rfl ?_
    refine e_iload_n (pc := 64) (i := 2) dX10_offer_64 rfl rfl ?_
    refine e_aload_n (pc := 65) (i := 0) dX10_offer_65 rfl rfl ?_
    have k5 : wK w4 l0 = 11 := (by rw [hw4]; exact nO_old k1 hq3)
    refine e_getR (pc := 66) dX10_offer_66 fRX10_33 rfl k5 ?_
    refine e_aload_n (pc := 69) (i := 0) dX10_offer_69 rfl rfl ?_
    refine e_getR (pc := 70) dX10_offer_70 fRX10_233 rfl k5 ?_
    refine e_callIv (pc := 73) (st := [vR q3]) (rc' := 1) (rs' := 2) (B' := bX6_init) [vR l1, vI l2, vR (wR w4 10 8 l0), vR (wR w4 10 6 l0)] dX10_offer_73 vRX10_293 kX6_init rfl rfl (K_ne (by rw [hw4]; exact nO_new)) rfl rfl (Nat.le_of_ble_eq_true rfl) ⟨Nat.le_of_ble_eq_true rfl, Nat.le_of_ble_eq_true rfl⟩ rfl rfl hv (fun w6 hv => ?_)
    refine e_astore (pc := 76) (i := 7) (lv' := [(0, vR l0), (1, vR l1), (2, vI l2), (3, vJ l3), (5, vJ l5), (7, vR q3)]) dX10_offer_76 (by decide) rfl ?_
    refine e_aload (pc := 78) (i := 7) dX10_offer_78 rfl ?_
    have k10 := hv.1
    replace hv := hv.2
    refine e_callVv (pc := 80) (ci := 6) (st := []) (rc' := 1) (rs' := 2) (B' := bX6_arrange) [] dX10_offer_80 vRX10_296 kX6_arrange (by decide) rfl k10 rfl rfl (Nat.le_of_ble_eq_true rfl) ⟨Nat.le_of_ble_eq_true rfl, Nat.le_of_ble_eq_true rfl⟩ rfl rfl hv (fun w8 hv => ?_)
    refine e_new (pc := 83) (ci := 7) (rc' := 0) (rs' := 0) dX10_offer_83 (by decide) (tb_a4 9 (by decide +kernel) rfl) dv7 rfl rfl (fun q11 hq11 nq11 => ?_)
    obtain ⟨w12, hw12⟩ : ∃ w12 : Wd, w12 = nO w8 7 q11 := ⟨_, rfl⟩
    replace hv := hv q11 hq11 nq11 w12 hw12
    rw [← hw12]
    refine e_dup (pc := 86) dX10_offer_86 rfl ?_
    refine e_aload (pc := 87) (i := 7) dX10_offer_87 rfl ?_
    refine e_lload_n (pc := 89) (i := 3) dX10_offer_89 rfl rfl ?_
    refine e_lload (pc := 90) (i := 5) dX10_offer_90 rfl ?_
    refine e_lsub (pc := 92) dX10_offer_92 ?_
    refine e_callIv (pc := 93) (st := [vR q11]) (rc' := 0) (rs' := 0) (B' := bX7_init) [vR q3, vJ (l3 - l5)] dX10_offer_93 vRX10_352 kX7_init rfl rfl (K_ne (by rw [hw12]; exact nO_new)) rfl rfl (Nat.le_of_ble_eq_true rfl) ⟨Nat.le_of_ble_eq_true rfl, Nat.le_of_ble_eq_true rfl⟩ rfl rfl hv (fun w13 hv => ?_)
    refine e_astore (pc := 96) (i := 8) (lv' := [(0, vR l0), (1, vR l1), (2, vI l2), (3, vJ l3), (5, vJ l5), (7, vR q3), (8, vR q11)]) dX10_offer_96 (by decide) rfl ?_
    refine e_aload (pc := 98) (i := 8) dX10_offer_98 rfl ?_
    have k17 := hv.1
    replace hv := hv.2
    refine e_callVv (pc := 100) (ci := 7) (st := []) (rc' := 0) (rs' := 0) (B' := bX7_distribute) [] dX10_offer_100 vRX10_355 kX7_distribute (by decide) rfl k17 rfl rfl (Nat.le_of_ble_eq_true rfl) ⟨Nat.le_of_ble_eq_true rfl, Nat.le_of_ble_eq_true rfl⟩ rfl rfl hv (fun w15 hv => ?_)
    refine e_aload_n (pc := 103) (i := 0) dX10_offer_103 rfl rfl ?_
    refine e_aload (pc := 104) (i := 8) dX10_offer_104 rfl ?_
    have k18 := hv.1
    replace hv := hv.2
    refine e_getJ (pc := 106) dX10_offer_106 fRX10_358 rfl k18 ?_
    have k19 := hv.1
    replace hv := hv.2
    obtain ⟨w20, hw20⟩ : ∃ w20 : Wd, w20 = sJ w15 10 11 l0 (wJ w15 7 1 q11) := ⟨_, rfl⟩
    replace hv := hv w20 hw20
    refine e_putJ (pc := 109) dX10_offer_109 fRX10_334 (Or.inl rfl) rfl k19 ?_
    rw [← hw20]
    refine e_aload (pc := 112) (i := 8) dX10_offer_112 rfl ?_
    exact e_areturn (pc := 114) dX10_offer_114 rfl ⟨_, rfl, hv⟩
  · replace hv := hv.2 h2
    refine e_aload_n (pc := 33) (i := 0) dX10_offer_33 rfl rfl ?_
    refine e_getR (pc := 34) dX10_offer_34 fRX10_17 rfl k1 ?_
    refine e_iload (pc := 37) (i := 7) dX10_offer_37 rfl ?_
    have k21 := hv.1
    replace hv := hv.2
    have hi22 := hv.1
    replace hv := hv.2
    refine e_aald (pc := 39) dX10_offer_39 (by decide) (by decide) k21 hi22 ?_
    refine e_astore (pc := 40) (i := 8) (lv' := [(0, vR l0), (1, vR l1), (2, vI l2), (3, vJ l3), (5, vJ l5), (7, vI l7), (8, vR (xR w (wR w 10 1 l0) l7.toNatClampNeg))]) dX10_offer_40 (by decide) rfl ?_
    refine e_aload (pc := 42) (i := 8) dX10_offer_42 rfl ?_
    refine e_ifnull (pc := 44) (tgt := 53) dX10_offer_44 (by decide) (fun h23 => ?_) (fun h23 => ?_)
    · replace hv := hv.1 h23
      refine e_iinc (pc := 53) (v := l7 + 1) (lv' := [(0, vR l0), (1, vR l1), (2, vI l2), (3, vJ l3), (5, vJ l5), (7, vI (l7 + 1)), (8, vR (xR w (wR w 10 1 l0) l7.toNatClampNeg))]) dX10_offer_53 rfl rfl (by decide) rfl ?_
      refine e_goto (pc := 56) (tgt := 24) dX10_offer_56 (by decide) ?_
      exact EJ.drop [0, 1, 2, 3, 5, 7] rfl hv
    · replace hv := hv.2 h23
      refine e_aload (pc := 47) (i := 8) dX10_offer_47 rfl ?_
      refine e_lconst (pc := 49) (v := 0) dX10_offer_49 (by decide) ?_
      have k24 := hv.1
      replace hv := hv.2
      obtain ⟨w25, hw25⟩ : ∃ w25 : Wd, w25 = sJ w 2 11 (xR w (wR w 10 1 l0) l7.toNatClampNeg) 0 := ⟨_, rfl⟩
      replace hv := hv w25 hw25
      refine e_putJ (pc := 50) dX10_offer_50 fRX10_349 (Or.inl rfl) rfl k24 ?_
      rw [← hw25]
      refine e_iinc (pc := 53) (v := l7 + 1) (lv' := [(0, vR l0), (1, vR l1), (2, vI l2), (3, vJ l3), (5, vJ l5), (7, vI (l7 + 1)), (8, vR (xR w (wR w 10 1 l0) l7.toNatClampNeg))]) dX10_offer_53 rfl rfl (by decide) rfl ?_
      refine e_goto (pc := 56) (tgt := 24) dX10_offer_56 (by decide) ?_
      exact EJ.drop [0, 1, 2, 3, 5, 7] rfl hv
set_option maxRecDepth 100000 in
set_option maxHeartbeats 4000000 in
theorem oX10_offer (X : Cx) (A : Nat → Wd → Prop) (a0 : Nat) (a1 : Nat) (a2 : Int32) (a3 : Int64) (a5 : Int64) (w : Wd)
    (hv : Ct X bX10_saleFault mX10_saleFault [vR a1, vI a2, vJ a3, vJ a5] w (qI fun x2 w1 => wK w1 a0 = 11 ∧ Ct X bX10_settle mX10_settle [vR a0, vI x2] w1 (qI fun x4 w3 => ((x4 = 0) → A 0 w3) ∧ ((¬ x4 = 0) → ((¬ a1 = 0) → jX10_offer_24 X A a0 a1 a2 a3 a5 0 w3) ∧ ((a1 = 0) → A 0 w3))))) :
    Ct X bX10_offer mX10_offer [vR a0, vR a1, vI a2, vJ a3, vJ a5] w (qR A) := by
  refine Ct.of (lv := [(0, vR a0), (1, vR a1), (2, vI a2), (3, vJ a3), (5, vJ a5)]) rfl (Nat.le_of_ble_eq_true rfl) rfl ?_
  refine e_aload_n (pc := 0) (i := 0) dX10_offer_0 rfl rfl ?_
  refine e_aload_n (pc := 1) (i := 1) dX10_offer_1 rfl rfl ?_
  refine e_iload_n (pc := 2) (i := 2) dX10_offer_2 rfl rfl ?_
  refine e_lload_n (pc := 3) (i := 3) dX10_offer_3 rfl rfl ?_
  refine e_lload (pc := 4) (i := 5) dX10_offer_4 rfl ?_
  refine e_callSi (pc := 6) (st := [vR a0]) (rc' := 2) (rs' := 7) (B' := bX10_saleFault) [vR a1, vI a2, vJ a3, vJ a5] dX10_offer_6 vRX10_345 kX10_saleFault rfl rfl (Nat.le_of_ble_eq_true rfl) ⟨Nat.le_of_ble_eq_true rfl, Nat.le_of_ble_eq_true rfl⟩ rfl rfl hv (fun x2 w1 hv => ?_)
  have k5 := hv.1
  replace hv := hv.2
  refine e_callVi (pc := 9) (ci := 10) (st := []) (rc' := 2) (rs' := 7) (B' := bX10_settle) [vI x2] dX10_offer_9 vRX10_41 kX10_settle (by decide) rfl k5 rfl rfl (Nat.le_of_ble_eq_true rfl) ⟨Nat.le_of_ble_eq_true rfl, Nat.le_of_ble_eq_true rfl⟩ rfl rfl hv (fun x4 w3 hv => ?_)
  refine e_if_eq (pc := 12) (tgt := 19) dX10_offer_12 (by decide) (fun h6 => ?_) (fun h6 => ?_)
  · replace hv := hv.1 h6
    refine e_null (pc := 19) dX10_offer_19 ?_
    exact e_areturn (pc := 20) dX10_offer_20 rfl ⟨_, rfl, hv⟩
  · replace hv := hv.2 h6
    refine e_aload_n (pc := 15) (i := 1) dX10_offer_15 rfl rfl ?_
    refine e_ifnonnull (pc := 16) (tgt := 21) dX10_offer_16 (by decide) (fun h7 => ?_) (fun h7 => ?_)
    · replace hv := hv.1 h7
      refine e_iconst (pc := 21) (v := 0) dX10_offer_21 (by decide) ?_
      refine e_istore (pc := 22) (i := 7) (lv' := [(0, vR a0), (1, vR a1), (2, vI a2), (3, vJ a3), (5, vJ a5), (7, vI 0)]) dX10_offer_22 (by decide) rfl ?_
      exact hv
    · replace hv := hv.2 h7
      refine e_null (pc := 19) dX10_offer_19 ?_
      exact e_areturn (pc := 20) dX10_offer_20 rfl ⟨_, rfl, hv⟩
set_option maxRecDepth 100000 in
set_option maxHeartbeats 4000000 in
theorem oX10_saleFault (X : Cx) (A : Int32 → Wd → Prop) (a0 : Nat) (a1 : Int32) (a2 : Int64) (a4 : Int64) (w : Wd)
    (hv : Ct X bX10_parcelFault mX10_parcelFault [vR a0, vI a1] w (qI fun x2 w1 => ((x2 = 0) → Ct X bX10_isSum mX10_isSum [vJ a2] w1 (qI fun x5 w4 => ((x5 = 0) → A 5 w4) ∧ ((¬ x5 = 0) → Ct X bX10_isSum mX10_isSum [vJ a4] w4 (qI fun x8 w7 => ((x8 = 0) → A 5 w7) ∧ ((¬ x8 = 0) → ((0 < (lg_cmp a4 a2)) → A 5 w7) ∧ ((¬ 0 < (lg_cmp a4 a2)) → A 0 w7)))))) ∧ ((¬ x2 = 0) → A x2 w1))) :
    Ct X bX10_saleFault mX10_saleFault [vR a0, vI a1, vJ a2, vJ a4] w (qI A) := by
  refine Ct.of (lv := [(0, vR a0), (1, vI a1), (2, vJ a2), (4, vJ a4)]) rfl (Nat.le_of_ble_eq_true rfl) rfl ?_
  refine e_aload_n (pc := 0) (i := 0) dX10_saleFault_0 rfl rfl ?_
  refine e_iload_n (pc := 1) (i := 1) dX10_saleFault_1 rfl rfl ?_
  refine e_callSi (pc := 2) (st := []) (rc' := 0) (rs' := 0) (B' := bX10_parcelFault) [vR a0, vI a1] dX10_saleFault_2 vRX10_54 kX10_parcelFault rfl rfl (Nat.le_of_ble_eq_true rfl) ⟨Nat.le_of_ble_eq_true rfl, Nat.le_of_ble_eq_true rfl⟩ rfl rfl hv (fun x2 w1 hv => ?_)
  refine e_istore (pc := 5) (i := 6) (lv' := [(0, vR a0), (1, vI a1), (2, vJ a2), (4, vJ a4), (6, vI x2)]) dX10_saleFault_5 (by decide) rfl ?_
  refine e_iload (pc := 7) (i := 6) dX10_saleFault_7 rfl ?_
  refine e_if_eq (pc := 9) (tgt := 15) dX10_saleFault_9 (by decide) (fun h3 => ?_) (fun h3 => ?_)
  · replace hv := hv.1 h3
    refine e_lload_n (pc := 15) (i := 2) dX10_saleFault_15 rfl rfl ?_
    refine e_callSi (pc := 16) (st := []) (rc' := 0) (rs' := 0) (B' := bX10_isSum) [vJ a2] dX10_saleFault_16 vRX10_126 kX10_isSum rfl rfl (Nat.le_of_ble_eq_true rfl) ⟨Nat.le_of_ble_eq_true rfl, Nat.le_of_ble_eq_true rfl⟩ rfl rfl hv (fun x5 w4 hv => ?_)
    refine e_if_eq (pc := 19) (tgt := 41) dX10_saleFault_19 (by decide) (fun h6 => ?_) (fun h6 => ?_)
    · replace hv := hv.1 h6
      refine e_iconst (pc := 41) (v := 5) dX10_saleFault_41 (by decide) ?_
      exact e_ireturn (pc := 42) dX10_saleFault_42 rfl ⟨_, rfl, hv⟩
    · replace hv := hv.2 h6
      refine e_lload (pc := 22) (i := 4) dX10_saleFault_22 rfl ?_
      refine e_callSi (pc := 24) (st := []) (rc' := 0) (rs' := 0) (B' := bX10_isSum) [vJ a4] dX10_saleFault_24 vRX10_126 kX10_isSum rfl rfl (Nat.le_of_ble_eq_true rfl) ⟨Nat.le_of_ble_eq_true rfl, Nat.le_of_ble_eq_true rfl⟩ rfl rfl hv (fun x8 w7 hv => ?_)
      refine e_if_eq (pc := 27) (tgt := 41) dX10_saleFault_27 (by decide) (fun h9 => ?_) (fun h9 => ?_)
      · replace hv := hv.1 h9
        refine e_iconst (pc := 41) (v := 5) dX10_saleFault_41 (by decide) ?_
        exact e_ireturn (pc := 42) dX10_saleFault_42 rfl ⟨_, rfl, hv⟩
      · replace hv := hv.2 h9
        refine e_lload (pc := 30) (i := 4) dX10_saleFault_30 rfl ?_
        refine e_lload_n (pc := 32) (i := 2) dX10_saleFault_32 rfl rfl ?_
        refine e_lcmp (pc := 33) dX10_saleFault_33 ?_
        refine e_if_gt (pc := 34) (tgt := 41) dX10_saleFault_34 (by decide) (fun h10 => ?_) (fun h10 => ?_)
        · replace hv := hv.1 h10
          refine e_iconst (pc := 41) (v := 5) dX10_saleFault_41 (by decide) ?_
          exact e_ireturn (pc := 42) dX10_saleFault_42 rfl ⟨_, rfl, hv⟩
        · replace hv := hv.2 h10
          refine e_iconst (pc := 37) (v := 0) dX10_saleFault_37 (by decide) ?_
          refine e_goto (pc := 38) (tgt := 42) dX10_saleFault_38 (by decide) ?_
          exact e_ireturn (pc := 42) dX10_saleFault_42 rfl ⟨_, rfl, hv⟩
  · replace hv := hv.2 h3
    refine e_iload (pc := 12) (i := 6) dX10_saleFault_12 rfl ?_
    exact e_ireturn (pc := 14) dX10_saleFault_14 rfl ⟨_, rfl, hv⟩
set_option maxRecDepth 100000 in
set_option maxHeartbeats 4000000 in
theorem oX10_share (X : Cx) (A : Int64 → Wd → Prop) (a0 : Nat) (a1 : Int32) (w : Wd)
    (hv : wK w a0 = 11 ∧ Ct X bX10_entryAt mX10_entryAt [vR a0, vI a1] w (qR fun x2 w1 => ((¬ x2 = 0) → wK w1 x2 = 3 ∧ A (wJ w1 2 11 x2) w1) ∧ ((x2 = 0) → A 0 w1))) :
    Ct X bX10_share mX10_share [vR a0, vI a1] w (qJ A) := by
  refine Ct.of (lv := [(0, vR a0), (1, vI a1)]) rfl (Nat.le_of_ble_eq_true rfl) rfl ?_
  refine e_aload_n (pc := 0) (i := 0) dX10_share_0 rfl rfl ?_
  refine e_iload_n (pc := 1) (i := 1) dX10_share_1 rfl rfl ?_
  have k3 := hv.1
  replace hv := hv.2
  refine e_callVr (pc := 2) (ci := 10) (st := []) (rc' := 0) (rs' := 0) (B' := bX10_entryAt) [vI a1] dX10_share_2 vRX10_133 kX10_entryAt (by decide) rfl k3 rfl rfl (Nat.le_of_ble_eq_true rfl) ⟨Nat.le_of_ble_eq_true rfl, Nat.le_of_ble_eq_true rfl⟩ rfl rfl hv (fun x2 w1 hv => ?_)
  refine e_astore_n (pc := 5) (i := 2) (lv' := [(0, vR a0), (1, vI a1), (2, vR x2)]) dX10_share_5 rfl (by decide) rfl ?_
  refine e_aload_n (pc := 6) (i := 2) dX10_share_6 rfl rfl ?_
  refine e_ifnonnull (pc := 7) (tgt := 14) dX10_share_7 (by decide) (fun h4 => ?_) (fun h4 => ?_)
  · replace hv := hv.1 h4
    refine e_aload_n (pc := 14) (i := 2) dX10_share_14 rfl rfl ?_
    have k5 := hv.1
    replace hv := hv.2
    refine e_getJ (pc := 15) dX10_share_15 fRX10_349 rfl k5 ?_
    exact e_lreturn (pc := 18) dX10_share_18 rfl ⟨_, rfl, hv⟩
  · replace hv := hv.2 h4
    refine e_lconst (pc := 10) (v := 0) dX10_share_10 (by decide) ?_
    refine e_goto (pc := 11) (tgt := 18) dX10_share_11 (by decide) ?_
    exact e_lreturn (pc := 18) dX10_share_18 rfl ⟨_, rfl, hv⟩
abbrev jX10_tell_18 (X : Cx) (A : Int32 → Wd → Prop) (l0 : Nat) (l2 : Int64) (l4 : Nat) (s0 : Int32) (w : Wd) : Prop := EJ X mX10_tell (vw X bX10_tell (qI A)) 0 0 18 [(0, vR l0), (2, vJ l2), (4, vR l4)] [vI s0] w
set_option maxRecDepth 100000 in
set_option maxHeartbeats 4000000 in
theorem tX10_tell_18 (X : Cx) (A : Int32 → Wd → Prop) (l0 : Nat) (l2 : Int64) (l4 : Nat) (s0 : Int32) (w : Wd)
    (hv : ((¬ l4 = 0) → wK w l0 = 11 ∧ Ct X bX10_settle mX10_settle [vR l0, vI s0] w (qI fun x3 w2 => ((x3 = 0) → A 0 w2) ∧ ((¬ x3 = 0) → ((¬ l4 = 0) → wK w2 l4 = 3 ∧ ∀ w8 : Wd, w8 = sJ w2 2 12 l4 l2 → A 1 w8) ∧ ((l4 = 0) → A 0 w2)))) ∧ ((l4 = 0) → wK w l0 = 11 ∧ Ct X bX10_settle mX10_settle [vR l0, vI 1] w (qI fun x10 w9 => ((x10 = 0) → A 0 w9) ∧ ((¬ x10 = 0) → ((¬ l4 = 0) → wK w9 l4 = 3 ∧ ∀ w15 : Wd, w15 = sJ w9 2 12 l4 l2 → A 1 w15) ∧ ((l4 = 0) → A 0 w9))))) :
    jX10_tell_18 X A l0 l2 l4 s0 w := by
  refine e_istore (pc := 18) (i := 5) (lv' := [(0, vR l0), (2, vJ l2), (4, vR l4), (5, vI s0)]) dX10_tell_18 (by decide) rfl ?_
  refine e_aload_n (pc := 20) (i := 0) dX10_tell_20 rfl rfl ?_
  refine e_aload (pc := 21) (i := 4) dX10_tell_21 rfl ?_
  refine e_ifnonnull (pc := 23) (tgt := 30) dX10_tell_23 (by decide) (fun h1 => ?_) (fun h1 => ?_)
  · replace hv := hv.1 h1
    refine e_iload (pc := 30) (i := 5) dX10_tell_30 rfl ?_
    have k4 := hv.1
    replace hv := hv.2
    refine e_callVi (pc := 32) (ci := 10) (st := []) (rc' := 0) (rs' := 0) (B' := bX10_settle) [vI s0] dX10_tell_32 vRX10_41 kX10_settle (by decide) rfl k4 rfl rfl (Nat.le_of_ble_eq_true rfl) ⟨Nat.le_of_ble_eq_true rfl, Nat.le_of_ble_eq_true rfl⟩ rfl rfl hv (fun x3 w2 hv => ?_)
    refine e_if_eq (pc := 35) (tgt := 43) dX10_tell_35 (by decide) (fun h5 => ?_) (fun h5 => ?_)
    · replace hv := hv.1 h5
      refine e_iconst (pc := 43) (v := 0) dX10_tell_43 (by decide) ?_
      exact e_zreturn (pc := 44) dX10_tell_44 rfl (Or.inl rfl) ⟨_, rfl, hv⟩
    · replace hv := hv.2 h5
      refine e_aload (pc := 38) (i := 4) dX10_tell_38 rfl ?_
      refine e_ifnonnull (pc := 40) (tgt := 45) dX10_tell_40 (by decide) (fun h6 => ?_) (fun h6 => ?_)
      · replace hv := hv.1 h6
        refine e_aload (pc := 45) (i := 4) dX10_tell_45 rfl ?_
        refine e_lload_n (pc := 47) (i := 2) dX10_tell_47 rfl rfl ?_
        have k7 := hv.1
        replace hv := hv.2
        obtain ⟨w8, hw8⟩ : ∃ w8 : Wd, w8 = sJ w2 2 12 l4 l2 := ⟨_, rfl⟩
        replace hv := hv w8 hw8
        refine e_putJ (pc := 48) dX10_tell_48 fRX10_361 (Or.inl rfl) rfl k7 ?_
        rw [← hw8]
        refine e_iconst (pc := 51) (v := 1) dX10_tell_51 (by decide) ?_
        exact e_zreturn (pc := 52) dX10_tell_52 rfl (Or.inr rfl) ⟨_, rfl, hv⟩
      · replace hv := hv.2 h6
        refine e_iconst (pc := 43) (v := 0) dX10_tell_43 (by decide) ?_
        exact e_zreturn (pc := 44) dX10_tell_44 rfl (Or.inl rfl) ⟨_, rfl, hv⟩
  · replace hv := hv.2 h1
    refine e_iconst (pc := 26) (v := 1) dX10_tell_26 (by decide) ?_
    refine e_goto (pc := 27) (tgt := 32) dX10_tell_27 (by decide) ?_
    have k11 := hv.1
    replace hv := hv.2
    refine e_callVi (pc := 32) (ci := 10) (st := []) (rc' := 0) (rs' := 0) (B' := bX10_settle) [vI 1] dX10_tell_32 vRX10_41 kX10_settle (by decide) rfl k11 rfl rfl (Nat.le_of_ble_eq_true rfl) ⟨Nat.le_of_ble_eq_true rfl, Nat.le_of_ble_eq_true rfl⟩ rfl rfl hv (fun x10 w9 hv => ?_)
    refine e_if_eq (pc := 35) (tgt := 43) dX10_tell_35 (by decide) (fun h12 => ?_) (fun h12 => ?_)
    · replace hv := hv.1 h12
      refine e_iconst (pc := 43) (v := 0) dX10_tell_43 (by decide) ?_
      exact e_zreturn (pc := 44) dX10_tell_44 rfl (Or.inl rfl) ⟨_, rfl, hv⟩
    · replace hv := hv.2 h12
      refine e_aload (pc := 38) (i := 4) dX10_tell_38 rfl ?_
      refine e_ifnonnull (pc := 40) (tgt := 45) dX10_tell_40 (by decide) (fun h13 => ?_) (fun h13 => ?_)
      · replace hv := hv.1 h13
        refine e_aload (pc := 45) (i := 4) dX10_tell_45 rfl ?_
        refine e_lload_n (pc := 47) (i := 2) dX10_tell_47 rfl rfl ?_
        have k14 := hv.1
        replace hv := hv.2
        obtain ⟨w15, hw15⟩ : ∃ w15 : Wd, w15 = sJ w9 2 12 l4 l2 := ⟨_, rfl⟩
        replace hv := hv w15 hw15
        refine e_putJ (pc := 48) dX10_tell_48 fRX10_361 (Or.inl rfl) rfl k14 ?_
        rw [← hw15]
        refine e_iconst (pc := 51) (v := 1) dX10_tell_51 (by decide) ?_
        exact e_zreturn (pc := 52) dX10_tell_52 rfl (Or.inr rfl) ⟨_, rfl, hv⟩
      · replace hv := hv.2 h13
        refine e_iconst (pc := 43) (v := 0) dX10_tell_43 (by decide) ?_
        exact e_zreturn (pc := 44) dX10_tell_44 rfl (Or.inl rfl) ⟨_, rfl, hv⟩
set_option maxRecDepth 100000 in
set_option maxHeartbeats 4000000 in
theorem oX10_tell (X : Cx) (A : Int32 → Wd → Prop) (a0 : Nat) (a1 : Int32) (a2 : Int64) (w : Wd)
    (hv : wK w a0 = 11 ∧ Ct X bX10_entryAt mX10_entryAt [vR a0, vI a1] w (qR fun x2 w1 => ((0 ≤ (lg_cmp a2 0)) → jX10_tell_18 X A a0 a2 x2 0 w1) ∧ ((¬ 0 ≤ (lg_cmp a2 0)) → jX10_tell_18 X A a0 a2 x2 5 w1))) :
    Ct X bX10_tell mX10_tell [vR a0, vI a1, vJ a2] w (qI A) := by
  refine Ct.of (lv := [(0, vR a0), (1, vI a1), (2, vJ a2)]) rfl (Nat.le_of_ble_eq_true rfl) rfl ?_
  refine e_aload_n (pc := 0) (i := 0) dX10_tell_0 rfl rfl ?_
  refine e_iload_n (pc := 1) (i := 1) dX10_tell_1 rfl rfl ?_
  have k3 := hv.1
  replace hv := hv.2
  refine e_callVr (pc := 2) (ci := 10) (st := []) (rc' := 0) (rs' := 0) (B' := bX10_entryAt) [vI a1] dX10_tell_2 vRX10_133 kX10_entryAt (by decide) rfl k3 rfl rfl (Nat.le_of_ble_eq_true rfl) ⟨Nat.le_of_ble_eq_true rfl, Nat.le_of_ble_eq_true rfl⟩ rfl rfl hv (fun x2 w1 hv => ?_)
  refine e_astore (pc := 5) (i := 4) (lv' := [(0, vR a0), (1, vI a1), (2, vJ a2), (4, vR x2)]) dX10_tell_5 (by decide) rfl ?_
  refine e_lload_n (pc := 7) (i := 2) dX10_tell_7 rfl rfl ?_
  refine e_lconst (pc := 8) (v := 0) dX10_tell_8 (by decide) ?_
  refine e_lcmp (pc := 9) dX10_tell_9 ?_
  refine e_if_ge (pc := 10) (tgt := 17) dX10_tell_10 (by decide) (fun h4 => ?_) (fun h4 => ?_)
  · replace hv := hv.1 h4
    refine e_iconst (pc := 17) (v := 0) dX10_tell_17 (by decide) ?_
    exact EJ.drop [0, 2, 4] rfl hv
  · replace hv := hv.2 h4
    refine e_iconst (pc := 13) (v := 5) dX10_tell_13 (by decide) ?_
    refine e_goto (pc := 14) (tgt := 18) dX10_tell_14 (by decide) ?_
    exact EJ.drop [0, 2, 4] rfl hv
abbrev jX10_check_21 (X : Cx) (A : Int32 → Wd → Prop) (l0 : Nat) (l3 : Int32) (l4 : Int32) (l5 : Int32) (w : Wd) : Prop := EJ X mX10_check (vw X bX10_check (qI A)) 0 0 21 [(0, vR l0), (3, vI l3), (4, vI l4), (5, vI l5)] [] w
set_option maxRecDepth 100000 in
set_option maxHeartbeats 4000000 in
theorem tX10_check_21 (X : Cx) (A : Int32 → Wd → Prop) (l0 : Nat) (l3 : Int32) (l4 : Int32) (l5 : Int32) (w : Wd)
    (hv : wK w l0 = 11 ∧ (((wI w 10 4 l0) ≤ l5) → Ct X bX10_settle mX10_settle [vR l0, vI 0] w (qI fun x4 w3 => A l3 w3)) ∧ ((¬ (wI w 10 4 l0) ≤ l5) → wK w (wR w 10 1 l0) = 17 ∧ vp_in l5 (wL w (wR w 10 1 l0)) ∧ ((¬ (xR w (wR w 10 1 l0) l5.toNatClampNeg) = 0) → ((¬ l4 = 0) → wK w (xR w (wR w 10 1 l0) l5.toNatClampNeg) = 3 ∧ ∀ w10 : Wd, w10 = sJ w 2 12 (xR w (wR w 10 1 l0) l5.toNatClampNeg) 0 → jX10_check_21 X A l0 l3 l4 (l5 + 1) w10) ∧ ((l4 = 0) → wK w (xR w (wR w 10 1 l0) l5.toNatClampNeg) = 3 ∧ ((¬ (wR w 2 2 (xR w (wR w 10 1 l0) l5.toNatClampNeg)) = 0) → ∀ w13 : Wd, w13 = sJ w 2 12 (xR w (wR w 10 1 l0) l5.toNatClampNeg) 0 → jX10_check_21 X A l0 l3 l4 (l5 + 1) w13) ∧ (((wR w 2 2 (xR w (wR w 10 1 l0) l5.toNatClampNeg)) = 0) → (((lg_cmp (wJ w 2 12 (xR w (wR w 10 1 l0) l5.toNatClampNeg)) (wJ w 2 11 (xR w (wR w 10 1 l0) l5.toNatClampNeg))) = 0) → ∀ w15 : Wd, w15 = sJ w 2 12 (xR w (wR w 10 1 l0) l5.toNatClampNeg) 0 → jX10_check_21 X A l0 l3 l4 (l5 + 1) w15) ∧ ((¬ (lg_cmp (wJ w 2 12 (xR w (wR w 10 1 l0) l5.toNatClampNeg)) (wJ w 2 11 (xR w (wR w 10 1 l0) l5.toNatClampNeg))) = 0) → ∀ w16 : Wd, w16 = sJ w 2 12 (xR w (wR w 10 1 l0) l5.toNatClampNeg) 0 → jX10_check_21 X A l0 (wI w 2 0 (xR w (wR w 10 1 l0) l5.toNatClampNeg)) 1 (l5 + 1) w16)))) ∧ (((xR w (wR w 10 1 l0) l5.toNatClampNeg) = 0) → jX10_check_21 X A l0 l3 l4 (l5 + 1) w))) :
    jX10_check_21 X A l0 l3 l4 l5 w := by
  refine e_iload (pc := 21) (i := 5) dX10_check_21 rfl ?_
  refine e_aload_n (pc := 23) (i := 0) dX10_check_23 rfl rfl ?_
  have k1 := hv.1
  replace hv := hv.2
  refine e_getI (pc := 24) dX10_check_24 fRX10_98 rfl k1 ?_
  refine e_icmp_ge (pc := 27) (tgt := 95) dX10_check_27 (by decide) (fun h2 => ?_) (fun h2 => ?_)
  · replace hv := hv.1 h2
    refine e_aload_n (pc := 95) (i := 0) dX10_check_95 rfl rfl ?_
    refine e_iconst (pc := 96) (v := 0) dX10_check_96 (by decide) ?_
    refine e_callVi (pc := 97) (ci := 10) (st := []) (rc' := 0) (rs' := 0) (B' := bX10_settle) [vI 0] dX10_check_97 vRX10_41 kX10_settle (by decide) rfl k1 rfl rfl (Nat.le_of_ble_eq_true rfl) ⟨Nat.le_of_ble_eq_true rfl, Nat.le_of_ble_eq_true rfl⟩ rfl rfl hv (fun x4 w3 hv => ?_)
    refine e_pop (pc := 100) dX10_check_100 rfl ?_
    refine e_iload_n (pc := 101) (i := 3) dX10_check_101 rfl rfl ?_
    exact e_ireturn (pc := 102) dX10_check_102 rfl ⟨_, rfl, hv⟩
  · replace hv := hv.2 h2
    refine e_aload_n (pc := 30) (i := 0) dX10_check_30 rfl rfl ?_
    refine e_getR (pc := 31) dX10_check_31 fRX10_17 rfl k1 ?_
    refine e_iload (pc := 34) (i := 5) dX10_check_34 rfl ?_
    have k5 := hv.1
    replace hv := hv.2
    have hi6 := hv.1
    replace hv := hv.2
    refine e_aald (pc := 36) dX10_check_36 (by decide) (by decide) k5 hi6 ?_
    refine e_astore (pc := 37) (i := 6) (lv' := [(0, vR l0), (3, vI l3), (4, vI l4), (5, vI l5), (6, vR (xR w (wR w 10 1 l0) l5.toNatClampNeg))]) dX10_check_37 (by decide) rfl ?_
    refine e_aload (pc := 39) (i := 6) dX10_check_39 rfl ?_
    refine e_ifnonnull (pc := 41) (tgt := 47) dX10_check_41 (by decide) (fun h7 => ?_) (fun h7 => ?_)
    · replace hv := hv.1 h7
      refine e_iload (pc := 47) (i := 4) dX10_check_47 rfl ?_
      refine e_if_ne (pc := 49) (tgt := 83) dX10_check_49 (by decide) (fun h8 => ?_) (fun h8 => ?_)
      · replace hv := hv.1 h8
        refine e_aload (pc := 83) (i := 6) dX10_check_83 rfl ?_
        refine e_lconst (pc := 85) (v := 0) dX10_check_85 (by decide) ?_
        have k9 := hv.1
        replace hv := hv.2
        obtain ⟨w10, hw10⟩ : ∃ w10 : Wd, w10 = sJ w 2 12 (xR w (wR w 10 1 l0) l5.toNatClampNeg) 0 := ⟨_, rfl⟩
        replace hv := hv w10 hw10
        refine e_putJ (pc := 86) dX10_check_86 fRX10_361 (Or.inl rfl) rfl k9 ?_
        rw [← hw10]
        refine e_iinc (pc := 89) (v := l5 + 1) (lv' := [(0, vR l0), (3, vI l3), (4, vI l4), (5, vI (l5 + 1)), (6, vR (xR w (wR w 10 1 l0) l5.toNatClampNeg))]) dX10_check_89 rfl rfl (by decide) rfl ?_
        refine e_goto (pc := 92) (tgt := 21) dX10_check_92 (by decide) ?_
        exact EJ.drop [0, 3, 4, 5] rfl hv
      · replace hv := hv.2 h8
        refine e_aload (pc := 52) (i := 6) dX10_check_52 rfl ?_
        have k11 := hv.1
        replace hv := hv.2
        refine e_getR (pc := 54) dX10_check_54 fRX10_153 rfl k11 ?_
        refine e_ifnonnull (pc := 57) (tgt := 83) dX10_check_57 (by decide) (fun h12 => ?_) (fun h12 => ?_)
        · replace hv := hv.1 h12
          refine e_aload (pc := 83) (i := 6) dX10_check_83 rfl ?_
          refine e_lconst (pc := 85) (v := 0) dX10_check_85 (by decide) ?_
          obtain ⟨w13, hw13⟩ : ∃ w13 : Wd, w13 = sJ w 2 12 (xR w (wR w 10 1 l0) l5.toNatClampNeg) 0 := ⟨_, rfl⟩
          replace hv := hv w13 hw13
          refine e_putJ (pc := 86) dX10_check_86 fRX10_361 (Or.inl rfl) rfl k11 ?_
          rw [← hw13]
          refine e_iinc (pc := 89) (v := l5 + 1) (lv' := [(0, vR l0), (3, vI l3), (4, vI l4), (5, vI (l5 + 1)), (6, vR (xR w (wR w 10 1 l0) l5.toNatClampNeg))]) dX10_check_89 rfl rfl (by decide) rfl ?_
          refine e_goto (pc := 92) (tgt := 21) dX10_check_92 (by decide) ?_
          exact EJ.drop [0, 3, 4, 5] rfl hv
        · replace hv := hv.2 h12
          refine e_aload (pc := 60) (i := 6) dX10_check_60 rfl ?_
          refine e_getJ (pc := 62) dX10_check_62 fRX10_361 rfl k11 ?_
          refine e_aload (pc := 65) (i := 6) dX10_check_65 rfl ?_
          refine e_getJ (pc := 67) dX10_check_67 fRX10_349 rfl k11 ?_
          refine e_lcmp (pc := 70) dX10_check_70 ?_
          refine e_if_eq (pc := 71) (tgt := 83) dX10_check_71 (by decide) (fun h14 => ?_) (fun h14 => ?_)
          · replace hv := hv.1 h14
            refine e_aload (pc := 83) (i := 6) dX10_check_83 rfl ?_
            refine e_lconst (pc := 85) (v := 0) dX10_check_85 (by decide) ?_
            obtain ⟨w15, hw15⟩ : ∃ w15 : Wd, w15 = sJ w 2 12 (xR w (wR w 10 1 l0) l5.toNatClampNeg) 0 := ⟨_, rfl⟩
            replace hv := hv w15 hw15
            refine e_putJ (pc := 86) dX10_check_86 fRX10_361 (Or.inl rfl) rfl k11 ?_
            rw [← hw15]
            refine e_iinc (pc := 89) (v := l5 + 1) (lv' := [(0, vR l0), (3, vI l3), (4, vI l4), (5, vI (l5 + 1)), (6, vR (xR w (wR w 10 1 l0) l5.toNatClampNeg))]) dX10_check_89 rfl rfl (by decide) rfl ?_
            refine e_goto (pc := 92) (tgt := 21) dX10_check_92 (by decide) ?_
            exact EJ.drop [0, 3, 4, 5] rfl hv
          · replace hv := hv.2 h14
            refine e_aload (pc := 74) (i := 6) dX10_check_74 rfl ?_
            refine e_getI (pc := 76) dX10_check_76 fRX10_364 rfl k11 ?_
            refine e_istore_n (pc := 79) (i := 3) (lv' := [(0, vR l0), (3, vI (wI w 2 0 (xR w (wR w 10 1 l0) l5.toNatClampNeg))), (4, vI l4), (5, vI l5), (6, vR (xR w (wR w 10 1 l0) l5.toNatClampNeg))]) dX10_check_79 rfl (by decide) rfl ?_
            refine e_iconst (pc := 80) (v := 1) dX10_check_80 (by decide) ?_
            refine e_istore (pc := 81) (i := 4) (lv' := [(0, vR l0), (3, vI (wI w 2 0 (xR w (wR w 10 1 l0) l5.toNatClampNeg))), (4, vI 1), (5, vI l5), (6, vR (xR w (wR w 10 1 l0) l5.toNatClampNeg))]) dX10_check_81 (by decide) rfl ?_
            refine e_aload (pc := 83) (i := 6) dX10_check_83 rfl ?_
            refine e_lconst (pc := 85) (v := 0) dX10_check_85 (by decide) ?_
            obtain ⟨w16, hw16⟩ : ∃ w16 : Wd, w16 = sJ w 2 12 (xR w (wR w 10 1 l0) l5.toNatClampNeg) 0 := ⟨_, rfl⟩
            replace hv := hv w16 hw16
            refine e_putJ (pc := 86) dX10_check_86 fRX10_361 (Or.inl rfl) rfl k11 ?_
            rw [← hw16]
            refine e_iinc (pc := 89) (v := l5 + 1) (lv' := [(0, vR l0), (3, vI (wI w 2 0 (xR w (wR w 10 1 l0) l5.toNatClampNeg))), (4, vI 1), (5, vI (l5 + 1)), (6, vR (xR w (wR w 10 1 l0) l5.toNatClampNeg))]) dX10_check_89 rfl rfl (by decide) rfl ?_
            refine e_goto (pc := 92) (tgt := 21) dX10_check_92 (by decide) ?_
            exact EJ.drop [0, 3, 4, 5] rfl hv
    · replace hv := hv.2 h7
      refine e_goto (pc := 44) (tgt := 89) dX10_check_44 (by decide) ?_
      refine e_iinc (pc := 89) (v := l5 + 1) (lv' := [(0, vR l0), (3, vI l3), (4, vI l4), (5, vI (l5 + 1)), (6, vR (xR w (wR w 10 1 l0) l5.toNatClampNeg))]) dX10_check_89 rfl rfl (by decide) rfl ?_
      refine e_goto (pc := 92) (tgt := 21) dX10_check_92 (by decide) ?_
      exact EJ.drop [0, 3, 4, 5] rfl hv
set_option maxRecDepth 100000 in
set_option maxHeartbeats 4000000 in
theorem oX10_check (X : Cx) (A : Int32 → Wd → Prop) (a0 : Nat) (a1 : Int64) (w : Wd)
    (hv : wK w a0 = 11 ∧ ((¬ (lg_cmp a1 (wJ w 10 11 a0)) = 0) → jX10_check_21 X A a0 (-1) 0 0 w) ∧ (((lg_cmp a1 (wJ w 10 11 a0)) = 0) → jX10_check_21 X A a0 0 0 0 w)) :
    Ct X bX10_check mX10_check [vR a0, vJ a1] w (qI A) := by
  refine Ct.of (lv := [(0, vR a0), (1, vJ a1)]) rfl (Nat.le_of_ble_eq_true rfl) rfl ?_
  refine e_lload_n (pc := 0) (i := 1) dX10_check_0 rfl rfl ?_
  refine e_aload_n (pc := 1) (i := 0) dX10_check_1 rfl rfl ?_
  have k1 := hv.1
  replace hv := hv.2
  refine e_getJ (pc := 2) dX10_check_2 fRX10_334 rfl k1 ?_
  refine e_lcmp (pc := 5) dX10_check_5 ?_
  refine e_if_ne (pc := 6) (tgt := 13) dX10_check_6 (by decide) (fun h2 => ?_) (fun h2 => ?_)
  · replace hv := hv.1 h2
    refine e_iconst (pc := 13) (v := (-1)) dX10_check_13 (by decide) ?_
    refine e_istore_n (pc := 14) (i := 3) (lv' := [(0, vR a0), (1, vJ a1), (3, vI (-1))]) dX10_check_14 rfl (by decide) rfl ?_
    refine e_iconst (pc := 15) (v := 0) dX10_check_15 (by decide) ?_
    refine e_istore (pc := 16) (i := 4) (lv' := [(0, vR a0), (1, vJ a1), (3, vI (-1)), (4, vI 0)]) dX10_check_16 (by decide) rfl ?_
    refine e_iconst (pc := 18) (v := 0) dX10_check_18 (by decide) ?_
    refine e_istore (pc := 19) (i := 5) (lv' := [(0, vR a0), (1, vJ a1), (3, vI (-1)), (4, vI 0), (5, vI 0)]) dX10_check_19 (by decide) rfl ?_
    exact EJ.drop [0, 3, 4, 5] rfl hv
  · replace hv := hv.2 h2
    refine e_iconst (pc := 9) (v := 0) dX10_check_9 (by decide) ?_
    refine e_goto (pc := 10) (tgt := 14) dX10_check_10 (by decide) ?_
    refine e_istore_n (pc := 14) (i := 3) (lv' := [(0, vR a0), (1, vJ a1), (3, vI 0)]) dX10_check_14 rfl (by decide) rfl ?_
    refine e_iconst (pc := 15) (v := 0) dX10_check_15 (by decide) ?_
    refine e_istore (pc := 16) (i := 4) (lv' := [(0, vR a0), (1, vJ a1), (3, vI 0), (4, vI 0)]) dX10_check_16 (by decide) rfl ?_
    refine e_iconst (pc := 18) (v := 0) dX10_check_18 (by decide) ?_
    refine e_istore (pc := 19) (i := 5) (lv' := [(0, vR a0), (1, vJ a1), (3, vI 0), (4, vI 0), (5, vI 0)]) dX10_check_19 (by decide) rfl ?_
    exact EJ.drop [0, 3, 4, 5] rfl hv
set_option maxRecDepth 100000 in
set_option maxHeartbeats 4000000 in
theorem oX10_circle (X : Cx) (A : Int32 → Wd → Prop) (a0 : Nat) (a1 : Int32) (w : Wd)
    (hv : wK w a0 = 11 ∧ wK w (wR w 10 2 a0) = 2 ∧ Ct X bX1_wholeAt mX1_wholeAt [vR (wR w 10 2 a0), vI a1] w (qI fun x3 w2 => A x3 w2)) :
    Ct X bX10_circle mX10_circle [vR a0, vI a1] w (qI A) := by
  refine Ct.of (lv := [(0, vR a0), (1, vI a1)]) rfl (Nat.le_of_ble_eq_true rfl) rfl ?_
  refine e_aload_n (pc := 0) (i := 0) dX10_circle_0 rfl rfl ?_
  have k1 := hv.1
  replace hv := hv.2
  refine e_getR (pc := 1) dX10_circle_1 fRX10_24 rfl k1 ?_
  refine e_iload_n (pc := 4) (i := 1) dX10_circle_4 rfl rfl ?_
  have k4 := hv.1
  replace hv := hv.2
  refine e_callVi (pc := 5) (ci := 1) (st := []) (rc' := 0) (rs' := 0) (B' := bX1_wholeAt) [vI a1] dX10_circle_5 vRX10_365 kX1_wholeAt (by decide) rfl k4 rfl rfl (Nat.le_of_ble_eq_true rfl) ⟨Nat.le_of_ble_eq_true rfl, Nat.le_of_ble_eq_true rfl⟩ rfl rfl hv (fun x3 w2 hv => ?_)
  exact e_ireturn (pc := 8) dX10_circle_8 rfl ⟨_, rfl, hv⟩
set_option maxRecDepth 100000 in
set_option maxHeartbeats 4000000 in
theorem oX10_due (X : Cx) (A : Int64 → Wd → Prop) (a0 : Nat) (a1 : Int32) (w : Wd)
    (hv : wK w a0 = 11 ∧ Ct X bX10_entryAt mX10_entryAt [vR a0, vI a1] w (qR fun x2 w1 => ((¬ x2 = 0) → wK w1 x2 = 3 ∧ wK w1 a0 = 11 ∧ wK w1 (wR w1 10 8 a0) = 5 ∧ wK w1 (wR w1 2 1 x2) = 10 ∧ Ct X bX9_spreadDue mX9_spreadDue [vR (wR w1 2 1 x2), vI (wI w1 4 0 (wR w1 10 8 a0))] w1 (qV fun w8 => wK w8 x2 = 3 ∧ wK w8 (wR w8 2 1 x2) = 10 ∧ Ct X bX9_leafDueBelow mX9_leafDueBelow [vR (wR w8 2 1 x2), vR x2] w8 (qJ fun x13 w12 => A x13 w12))) ∧ ((x2 = 0) → A (-1) w1))) :
    Ct X bX10_due mX10_due [vR a0, vI a1] w (qJ A) := by
  refine Ct.of (lv := [(0, vR a0), (1, vI a1)]) rfl (Nat.le_of_ble_eq_true rfl) rfl ?_
  refine e_aload_n (pc := 0) (i := 0) dX10_due_0 rfl rfl ?_
  refine e_iload_n (pc := 1) (i := 1) dX10_due_1 rfl rfl ?_
  have k3 := hv.1
  replace hv := hv.2
  refine e_callVr (pc := 2) (ci := 10) (st := []) (rc' := 0) (rs' := 0) (B' := bX10_entryAt) [vI a1] dX10_due_2 vRX10_133 kX10_entryAt (by decide) rfl k3 rfl rfl (Nat.le_of_ble_eq_true rfl) ⟨Nat.le_of_ble_eq_true rfl, Nat.le_of_ble_eq_true rfl⟩ rfl rfl hv (fun x2 w1 hv => ?_)
  refine e_astore_n (pc := 5) (i := 2) (lv' := [(0, vR a0), (1, vI a1), (2, vR x2)]) dX10_due_5 rfl (by decide) rfl ?_
  refine e_aload_n (pc := 6) (i := 2) dX10_due_6 rfl rfl ?_
  refine e_ifnonnull (pc := 7) (tgt := 14) dX10_due_7 (by decide) (fun h4 => ?_) (fun h4 => ?_)
  · replace hv := hv.1 h4
    refine e_aload_n (pc := 14) (i := 2) dX10_due_14 rfl rfl ?_
    have k5 := hv.1
    replace hv := hv.2
    refine e_getR (pc := 15) dX10_due_15 fRX10_141 rfl k5 ?_
    refine e_aload_n (pc := 18) (i := 0) dX10_due_18 rfl rfl ?_
    have k6 := hv.1
    replace hv := hv.2
    refine e_getR (pc := 19) dX10_due_19 fRX10_33 rfl k6 ?_
    have k7 := hv.1
    replace hv := hv.2
    refine e_getI (pc := 22) dX10_due_22 fRX10_69 rfl k7 ?_
    have k10 := hv.1
    replace hv := hv.2
    refine e_callVv (pc := 25) (ci := 9) (st := []) (rc' := 0) (rs' := 0) (B' := bX9_spreadDue) [vI (wI w1 4 0 (wR w1 10 8 a0))] dX10_due_25 vRX10_367 kX9_spreadDue (by decide) rfl k10 rfl rfl (Nat.le_of_ble_eq_true rfl) ⟨Nat.le_of_ble_eq_true rfl, Nat.le_of_ble_eq_true rfl⟩ rfl rfl hv (fun w8 hv => ?_)
    refine e_aload_n (pc := 28) (i := 2) dX10_due_28 rfl rfl ?_
    have k11 := hv.1
    replace hv := hv.2
    refine e_getR (pc := 29) dX10_due_29 fRX10_141 rfl k11 ?_
    refine e_aload_n (pc := 32) (i := 2) dX10_due_32 rfl rfl ?_
    have k14 := hv.1
    replace hv := hv.2
    refine e_callVj (pc := 33) (ci := 9) (st := []) (rc' := 0) (rs' := 0) (B' := bX9_leafDueBelow) [vR x2] dX10_due_33 vRX10_370 kX9_leafDueBelow (by decide) rfl k14 rfl rfl (Nat.le_of_ble_eq_true rfl) ⟨Nat.le_of_ble_eq_true rfl, Nat.le_of_ble_eq_true rfl⟩ rfl rfl hv (fun x13 w12 hv => ?_)
    exact e_lreturn (pc := 36) dX10_due_36 rfl ⟨_, rfl, hv⟩
  · replace hv := hv.2 h4
    refine e_ldc2 (pc := 10) (v := -1) dX10_due_10 (tb_a1 195 (by decide +kernel) rfl) ?_
    exact e_lreturn (pc := 13) dX10_due_13 rfl ⟨_, rfl, hv⟩
set_option maxRecDepth 100000 in
set_option maxHeartbeats 4000000 in
theorem oX10_kind (X : Cx) (A : Int32 → Wd → Prop) (a0 : Nat) (a1 : Int32) (a2 : Int32) (w : Wd)
    (hv : wK w a0 = 11 ∧ Ct X bX10_entryAt mX10_entryAt [vR a0, vI a1] w (qR fun x2 w1 => ((¬ x2 = 0) → wK w1 x2 = 3 ∧ (a2 = 0 → wK w1 (wR w1 2 1 x2) = 10 ∧ wK w1 (wR w1 9 3 (wR w1 2 1 x2)) = 9 ∧ A (wI w1 8 0 (wR w1 9 3 (wR w1 2 1 x2))) w1) ∧ (a2 = 1 → wK w1 (wR w1 2 1 x2) = 10 ∧ wK w1 (wR w1 9 0 (wR w1 2 1 x2)) = 4 ∧ A (wI w1 3 0 (wR w1 9 0 (wR w1 2 1 x2))) w1) ∧ (a2 = 2 → wK w1 (wR w1 2 1 x2) = 10 ∧ Ct X bX9_number mX9_number [vR (wR w1 2 1 x2)] w1 (qI fun x14 w13 => A x14 w13)) ∧ (a2 = 3 → ((¬ (wR w1 2 2 x2) = 0) → wK w1 (wR w1 2 2 x2) = 3 ∧ A (wI w1 2 0 (wR w1 2 2 x2)) w1) ∧ (((wR w1 2 2 x2) = 0) → A 0 w1)) ∧ (a2 = 4 → A (wI w1 2 3 x2) w1) ∧ (a2 = 5 → wK w1 a0 = 11 ∧ wK w1 (wR w1 2 1 x2) = 10 ∧ Ct X bX9_livesAt mX9_livesAt [vR (wR w1 2 1 x2), vR (wR w1 10 8 a0)] w1 (qI fun x23 w22 => ((x23 = 0) → A 0 w22) ∧ ((¬ x23 = 0) → A 1 w22))) ∧ (a2 = 6 → wK w1 (wR w1 2 1 x2) = 10 ∧ wK w1 (wR w1 9 2 (wR w1 2 1 x2)) = 1 ∧ A (wI w1 0 0 (wR w1 9 2 (wR w1 2 1 x2))) w1) ∧ (a2 = 7 → wK w1 (wR w1 2 1 x2) = 10 ∧ wK w1 (wR w1 9 2 (wR w1 2 1 x2)) = 1 ∧ A (wI w1 0 1 (wR w1 9 2 (wR w1 2 1 x2))) w1) ∧ (a2 = 8 → (((wI w1 2 5 x2) = 0) → A 0 w1) ∧ ((¬ (wI w1 2 5 x2) = 0) → A 2 w1)) ∧ (a2 = 9 → ((¬ (wR w1 2 2 x2) = 0) → A 0 w1) ∧ (((wR w1 2 2 x2) = 0) → wK w1 (wR w1 2 1 x2) = 10 ∧ ((¬ (wR w1 9 6 (wR w1 2 1 x2)) = 0) → wK w1 (wR w1 9 6 (wR w1 2 1 x2)) = 10 ∧ Ct X bX9_number mX9_number [vR (wR w1 9 6 (wR w1 2 1 x2))] w1 (qI fun x39 w38 => A x39 w38)) ∧ (((wR w1 9 6 (wR w1 2 1 x2)) = 0) → A 0 w1))) ∧ (¬ a2 = 0 → ¬ a2 = 1 → ¬ a2 = 2 → ¬ a2 = 3 → ¬ a2 = 4 → ¬ a2 = 5 → ¬ a2 = 6 → ¬ a2 = 7 → ¬ a2 = 8 → ¬ a2 = 9 → A (-1) w1)) ∧ ((x2 = 0) → A (-1) w1))) :
    Ct X bX10_kind mX10_kind [vR a0, vI a1, vI a2] w (qI A) := by
  refine Ct.of (lv := [(0, vR a0), (1, vI a1), (2, vI a2)]) rfl (Nat.le_of_ble_eq_true rfl) rfl ?_
  refine e_aload_n (pc := 0) (i := 0) dX10_kind_0 rfl rfl ?_
  refine e_iload_n (pc := 1) (i := 1) dX10_kind_1 rfl rfl ?_
  have k3 := hv.1
  replace hv := hv.2
  refine e_callVr (pc := 2) (ci := 10) (st := []) (rc' := 0) (rs' := 0) (B' := bX10_entryAt) [vI a1] dX10_kind_2 vRX10_133 kX10_entryAt (by decide) rfl k3 rfl rfl (Nat.le_of_ble_eq_true rfl) ⟨Nat.le_of_ble_eq_true rfl, Nat.le_of_ble_eq_true rfl⟩ rfl rfl hv (fun x2 w1 hv => ?_)
  refine e_astore_n (pc := 5) (i := 3) (lv' := [(0, vR a0), (1, vI a1), (2, vI a2), (3, vR x2)]) dX10_kind_5 rfl (by decide) rfl ?_
  refine e_aload_n (pc := 6) (i := 3) dX10_kind_6 rfl rfl ?_
  refine e_ifnonnull (pc := 7) (tgt := 12) dX10_kind_7 (by decide) (fun h4 => ?_) (fun h4 => ?_)
  · replace hv := hv.1 h4
    refine e_aload_n (pc := 12) (i := 3) dX10_kind_12 rfl rfl ?_
    have k5 := hv.1
    replace hv := hv.2
    refine e_getR (pc := 13) dX10_kind_13 fRX10_141 rfl k5 ?_
    refine e_astore (pc := 16) (i := 4) (lv' := [(0, vR a0), (1, vI a1), (2, vI a2), (3, vR x2), (4, vR (wR w1 2 1 x2))]) dX10_kind_16 (by decide) rfl ?_
    refine e_iload_n (pc := 18) (i := 2) dX10_kind_18 rfl rfl ?_
    by_cases h6 : a2 = 0
    · replace hv := hv.1 h6
      refine e_tableK (pc := 19) (tgt := 72) (c := 0) (off := 53) dX10_kind_19 h6 (by decide) (by decide) (by decide) (by decide) ?_
      refine e_aload (pc := 72) (i := 4) dX10_kind_72 rfl ?_
      have k7 := hv.1
      replace hv := hv.2
      refine e_getR (pc := 74) dX10_kind_74 fRX10_145 rfl k7 ?_
      have k8 := hv.1
      replace hv := hv.2
      refine e_getI (pc := 77) dX10_kind_77 fRX10_157 rfl k8 ?_
      exact e_ireturn (pc := 80) dX10_kind_80 rfl ⟨_, rfl, hv⟩
    replace hv := hv.2
    by_cases h9 : a2 = 1
    · replace hv := hv.1 h9
      refine e_tableK (pc := 19) (tgt := 81) (c := 1) (off := 62) dX10_kind_19 h9 (by decide) (by decide) (by decide) (by decide) ?_
      refine e_aload (pc := 81) (i := 4) dX10_kind_81 rfl ?_
      have k10 := hv.1
      replace hv := hv.2
      refine e_getR (pc := 83) dX10_kind_83 fRX10_326 rfl k10 ?_
      have k11 := hv.1
      replace hv := hv.2
      refine e_getI (pc := 86) dX10_kind_86 fRX10_373 rfl k11 ?_
      exact e_ireturn (pc := 89) dX10_kind_89 rfl ⟨_, rfl, hv⟩
    replace hv := hv.2
    by_cases h12 : a2 = 2
    · replace hv := hv.1 h12
      refine e_tableK (pc := 19) (tgt := 90) (c := 2) (off := 71) dX10_kind_19 h12 (by decide) (by decide) (by decide) (by decide) ?_
      refine e_aload (pc := 90) (i := 4) dX10_kind_90 rfl ?_
      have k15 := hv.1
      replace hv := hv.2
      refine e_callVi (pc := 92) (ci := 9) (st := []) (rc' := 0) (rs' := 0) (B' := bX9_number) [] dX10_kind_92 vRX10_323 kX9_number (by decide) rfl k15 rfl rfl (Nat.le_of_ble_eq_true rfl) ⟨Nat.le_of_ble_eq_true rfl, Nat.le_of_ble_eq_true rfl⟩ rfl rfl hv (fun x14 w13 hv => ?_)
      exact e_ireturn (pc := 95) dX10_kind_95 rfl ⟨_, rfl, hv⟩
    replace hv := hv.2
    by_cases h16 : a2 = 3
    · replace hv := hv.1 h16
      refine e_tableK (pc := 19) (tgt := 96) (c := 3) (off := 77) dX10_kind_19 h16 (by decide) (by decide) (by decide) (by decide) ?_
      refine e_aload_n (pc := 96) (i := 3) dX10_kind_96 rfl rfl ?_
      refine e_getR (pc := 97) dX10_kind_97 fRX10_153 rfl k5 ?_
      refine e_ifnonnull (pc := 100) (tgt := 107) dX10_kind_100 (by decide) (fun h17 => ?_) (fun h17 => ?_)
      · replace hv := hv.1 h17
        refine e_aload_n (pc := 107) (i := 3) dX10_kind_107 rfl rfl ?_
        refine e_getR (pc := 108) dX10_kind_108 fRX10_153 rfl k5 ?_
        have k18 := hv.1
        replace hv := hv.2
        refine e_getI (pc := 111) dX10_kind_111 fRX10_364 rfl k18 ?_
        exact e_ireturn (pc := 114) dX10_kind_114 rfl ⟨_, rfl, hv⟩
      · replace hv := hv.2 h17
        refine e_iconst (pc := 103) (v := 0) dX10_kind_103 (by decide) ?_
        refine e_goto (pc := 104) (tgt := 114) dX10_kind_104 (by decide) ?_
        exact e_ireturn (pc := 114) dX10_kind_114 rfl ⟨_, rfl, hv⟩
    replace hv := hv.2
    by_cases h19 : a2 = 4
    · replace hv := hv.1 h19
      refine e_tableK (pc := 19) (tgt := 115) (c := 4) (off := 96) dX10_kind_19 h19 (by decide) (by decide) (by decide) (by decide) ?_
      refine e_aload_n (pc := 115) (i := 3) dX10_kind_115 rfl rfl ?_
      refine e_getI (pc := 116) dX10_kind_116 fRX10_206 rfl k5 ?_
      exact e_ireturn (pc := 119) dX10_kind_119 rfl ⟨_, rfl, hv⟩
    replace hv := hv.2
    by_cases h20 : a2 = 5
    · replace hv := hv.1 h20
      refine e_tableK (pc := 19) (tgt := 120) (c := 5) (off := 101) dX10_kind_19 h20 (by decide) (by decide) (by decide) (by decide) ?_
      refine e_aload (pc := 120) (i := 4) dX10_kind_120 rfl ?_
      refine e_aload_n (pc := 122) (i := 0) dX10_kind_122 rfl rfl ?_
      have k21 := hv.1
      replace hv := hv.2
      refine e_getR (pc := 123) dX10_kind_123 fRX10_33 rfl k21 ?_
      have k24 := hv.1
      replace hv := hv.2
      refine e_callVi (pc := 126) (ci := 9) (st := []) (rc' := 0) (rs' := 0) (B' := bX9_livesAt) [vR (wR w1 10 8 a0)] dX10_kind_126 vRX10_174 kX9_livesAt (by decide) rfl k24 rfl rfl (Nat.le_of_ble_eq_true rfl) ⟨Nat.le_of_ble_eq_true rfl, Nat.le_of_ble_eq_true rfl⟩ rfl rfl hv (fun x23 w22 hv => ?_)
      refine e_if_eq (pc := 129) (tgt := 136) dX10_kind_129 (by decide) (fun h25 => ?_) (fun h25 => ?_)
      · replace hv := hv.1 h25
        refine e_iconst (pc := 136) (v := 0) dX10_kind_136 (by decide) ?_
        exact e_ireturn (pc := 137) dX10_kind_137 rfl ⟨_, rfl, hv⟩
      · replace hv := hv.2 h25
        refine e_iconst (pc := 132) (v := 1) dX10_kind_132 (by decide) ?_
        refine e_goto (pc := 133) (tgt := 137) dX10_kind_133 (by decide) ?_
        exact e_ireturn (pc := 137) dX10_kind_137 rfl ⟨_, rfl, hv⟩
    replace hv := hv.2
    by_cases h26 : a2 = 6
    · replace hv := hv.1 h26
      refine e_tableK (pc := 19) (tgt := 138) (c := 6) (off := 119) dX10_kind_19 h26 (by decide) (by decide) (by decide) (by decide) ?_
      refine e_aload (pc := 138) (i := 4) dX10_kind_138 rfl ?_
      have k27 := hv.1
      replace hv := hv.2
      refine e_getR (pc := 140) dX10_kind_140 fRX10_275 rfl k27 ?_
      have k28 := hv.1
      replace hv := hv.2
      refine e_getI (pc := 143) dX10_kind_143 fRX10_85 rfl k28 ?_
      exact e_ireturn (pc := 146) dX10_kind_146 rfl ⟨_, rfl, hv⟩
    replace hv := hv.2
    by_cases h29 : a2 = 7
    · replace hv := hv.1 h29
      refine e_tableK (pc := 19) (tgt := 147) (c := 7) (off := 128) dX10_kind_19 h29 (by decide) (by decide) (by decide) (by decide) ?_
      refine e_aload (pc := 147) (i := 4) dX10_kind_147 rfl ?_
      have k30 := hv.1
      replace hv := hv.2
      refine e_getR (pc := 149) dX10_kind_149 fRX10_275 rfl k30 ?_
      have k31 := hv.1
      replace hv := hv.2
      refine e_getI (pc := 152) dX10_kind_152 fRX10_374 rfl k31 ?_
      exact e_ireturn (pc := 155) dX10_kind_155 rfl ⟨_, rfl, hv⟩
    replace hv := hv.2
    by_cases h32 : a2 = 8
    · replace hv := hv.1 h32
      refine e_tableK (pc := 19) (tgt := 156) (c := 8) (off := 137) dX10_kind_19 h32 (by decide) (by decide) (by decide) (by decide) ?_
      refine e_aload_n (pc := 156) (i := 3) dX10_kind_156 rfl rfl ?_
      refine e_getI (pc := 157) dX10_kind_157 fRX10_182 rfl k5 ?_
      refine e_if_eq (pc := 160) (tgt := 167) dX10_kind_160 (by decide) (fun h33 => ?_) (fun h33 => ?_)
      · replace hv := hv.1 h33
        refine e_iconst (pc := 167) (v := 0) dX10_kind_167 (by decide) ?_
        exact e_ireturn (pc := 168) dX10_kind_168 rfl ⟨_, rfl, hv⟩
      · replace hv := hv.2 h33
        refine e_iconst (pc := 163) (v := 2) dX10_kind_163 (by decide) ?_
        refine e_goto (pc := 164) (tgt := 168) dX10_kind_164 (by decide) ?_
        exact e_ireturn (pc := 168) dX10_kind_168 rfl ⟨_, rfl, hv⟩
    replace hv := hv.2
    by_cases h34 : a2 = 9
    · replace hv := hv.1 h34
      refine e_tableK (pc := 19) (tgt := 169) (c := 9) (off := 150) dX10_kind_19 h34 (by decide) (by decide) (by decide) (by decide) ?_
      refine e_aload_n (pc := 169) (i := 3) dX10_kind_169 rfl rfl ?_
      refine e_getR (pc := 170) dX10_kind_170 fRX10_153 rfl k5 ?_
      refine e_ifnonnull (pc := 173) (tgt := 184) dX10_kind_173 (by decide) (fun h35 => ?_) (fun h35 => ?_)
      · replace hv := hv.1 h35
        refine e_iconst (pc := 184) (v := 0) dX10_kind_184 (by decide) ?_
        refine e_goto (pc := 185) (tgt := 196) dX10_kind_185 (by decide) ?_
        exact e_ireturn (pc := 196) dX10_kind_196 rfl ⟨_, rfl, hv⟩
      · replace hv := hv.2 h35
        refine e_aload (pc := 176) (i := 4) dX10_kind_176 rfl ?_
        have k36 := hv.1
        replace hv := hv.2
        refine e_getR (pc := 178) dX10_kind_178 fRX10_282 rfl k36 ?_
        refine e_ifnonnull (pc := 181) (tgt := 188) dX10_kind_181 (by decide) (fun h37 => ?_) (fun h37 => ?_)
        · replace hv := hv.1 h37
          refine e_aload (pc := 188) (i := 4) dX10_kind_188 rfl ?_
          refine e_getR (pc := 190) dX10_kind_190 fRX10_282 rfl k36 ?_
          have k40 := hv.1
          replace hv := hv.2
          refine e_callVi (pc := 193) (ci := 9) (st := []) (rc' := 0) (rs' := 0) (B' := bX9_number) [] dX10_kind_193 vRX10_323 kX9_number (by decide) rfl k40 rfl rfl (Nat.le_of_ble_eq_true rfl) ⟨Nat.le_of_ble_eq_true rfl, Nat.le_of_ble_eq_true rfl⟩ rfl rfl hv (fun x39 w38 hv => ?_)
          exact e_ireturn (pc := 196) dX10_kind_196 rfl ⟨_, rfl, hv⟩
        · replace hv := hv.2 h37
          refine e_iconst (pc := 184) (v := 0) dX10_kind_184 (by decide) ?_
          refine e_goto (pc := 185) (tgt := 196) dX10_kind_185 (by decide) ?_
          exact e_ireturn (pc := 196) dX10_kind_196 rfl ⟨_, rfl, hv⟩
    replace hv := hv.2
    replace hv := hv h6 h9 h12 h16 h19 h20 h26 h29 h32 h34
    refine e_tableOut (pc := 19) (tgt := 197) dX10_kind_19 (by have z0 : ¬ a2.toInt = 0 := lv_neT h6 (by decide); have z1 : ¬ a2.toInt = 1 := lv_neT h9 (by decide); have z2 : ¬ a2.toInt = 2 := lv_neT h12 (by decide); have z3 : ¬ a2.toInt = 3 := lv_neT h16 (by decide); have z4 : ¬ a2.toInt = 4 := lv_neT h19 (by decide); have z5 : ¬ a2.toInt = 5 := lv_neT h20 (by decide); have z6 : ¬ a2.toInt = 6 := lv_neT h26 (by decide); have z7 : ¬ a2.toInt = 7 := lv_neT h29 (by decide); have z8 : ¬ a2.toInt = 8 := lv_neT h32 (by decide); have z9 : ¬ a2.toInt = 9 := lv_neT h34 (by decide); omega) (by decide) ?_
    refine e_iconst (pc := 197) (v := (-1)) dX10_kind_197 (by decide) ?_
    exact e_ireturn (pc := 198) dX10_kind_198 rfl ⟨_, rfl, hv⟩
  · replace hv := hv.2 h4
    refine e_iconst (pc := 10) (v := (-1)) dX10_kind_10 (by decide) ?_
    exact e_ireturn (pc := 11) dX10_kind_11 rfl ⟨_, rfl, hv⟩
set_option maxRecDepth 100000 in
set_option maxHeartbeats 4000000 in
theorem oX10_sum (X : Cx) (A : Int64 → Wd → Prop) (a0 : Nat) (a1 : Int32) (w : Wd)
    (hv : wK w a0 = 11 ∧ Ct X bX10_entryAt mX10_entryAt [vR a0, vI a1] w (qR fun x2 w1 => ((¬ x2 = 0) → wK w1 x2 = 3 ∧ wK w1 (wR w1 2 1 x2) = 10 ∧ Ct X bX9_owedBelow mX9_owedBelow [vR (wR w1 2 1 x2), vR x2] w1 (qJ fun x7 w6 => A x7 w6)) ∧ ((x2 = 0) → A (-1) w1))) :
    Ct X bX10_sum mX10_sum [vR a0, vI a1] w (qJ A) := by
  refine Ct.of (lv := [(0, vR a0), (1, vI a1)]) rfl (Nat.le_of_ble_eq_true rfl) rfl ?_
  refine e_aload_n (pc := 0) (i := 0) dX10_sum_0 rfl rfl ?_
  refine e_iload_n (pc := 1) (i := 1) dX10_sum_1 rfl rfl ?_
  have k3 := hv.1
  replace hv := hv.2
  refine e_callVr (pc := 2) (ci := 10) (st := []) (rc' := 0) (rs' := 0) (B' := bX10_entryAt) [vI a1] dX10_sum_2 vRX10_133 kX10_entryAt (by decide) rfl k3 rfl rfl (Nat.le_of_ble_eq_true rfl) ⟨Nat.le_of_ble_eq_true rfl, Nat.le_of_ble_eq_true rfl⟩ rfl rfl hv (fun x2 w1 hv => ?_)
  refine e_astore_n (pc := 5) (i := 2) (lv' := [(0, vR a0), (1, vI a1), (2, vR x2)]) dX10_sum_5 rfl (by decide) rfl ?_
  refine e_aload_n (pc := 6) (i := 2) dX10_sum_6 rfl rfl ?_
  refine e_ifnonnull (pc := 7) (tgt := 16) dX10_sum_7 (by decide) (fun h4 => ?_) (fun h4 => ?_)
  · replace hv := hv.1 h4
    refine e_aload_n (pc := 16) (i := 2) dX10_sum_16 rfl rfl ?_
    have k5 := hv.1
    replace hv := hv.2
    refine e_getR (pc := 17) dX10_sum_17 fRX10_141 rfl k5 ?_
    refine e_aload_n (pc := 20) (i := 2) dX10_sum_20 rfl rfl ?_
    have k8 := hv.1
    replace hv := hv.2
    refine e_callVj (pc := 21) (ci := 9) (st := []) (rc' := 0) (rs' := 0) (B' := bX9_owedBelow) [vR x2] dX10_sum_21 vRX10_178 kX9_owedBelow (by decide) rfl k8 rfl rfl (Nat.le_of_ble_eq_true rfl) ⟨Nat.le_of_ble_eq_true rfl, Nat.le_of_ble_eq_true rfl⟩ rfl rfl hv (fun x7 w6 hv => ?_)
    exact e_lreturn (pc := 24) dX10_sum_24 rfl ⟨_, rfl, hv⟩
  · replace hv := hv.2 h4
    refine e_ldc2 (pc := 10) (v := -1) dX10_sum_10 (tb_a1 195 (by decide +kernel) rfl) ?_
    refine e_goto (pc := 13) (tgt := 24) dX10_sum_13 (by decide) ?_
    exact e_lreturn (pc := 24) dX10_sum_24 rfl ⟨_, rfl, hv⟩
abbrev jX10_parcels_17 (X : Cx) (A : Int64 → Wd → Prop) (l0 : Nat) (l2 : Nat) (l3 : Int64) (l5 : Int32) (w : Wd) : Prop := EJ X mX10_parcels (vw X bX10_parcels (qJ A)) 0 0 17 [(0, vR l0), (2, vR l2), (3, vJ l3), (5, vI l5)] [] w
set_option maxRecDepth 100000 in
set_option maxHeartbeats 4000000 in
theorem tX10_parcels_17 (X : Cx) (A : Int64 → Wd → Prop) (l0 : Nat) (l2 : Nat) (l3 : Int64) (l5 : Int32) (w : Wd)
    (hv : ((60 ≤ l5) → A l3 w) ∧ ((¬ 60 ≤ l5) → wK w l0 = 11 ∧ wK w l2 = 3 ∧ Ct X bX2_liesOn mX2_liesOn [vR l2, vI l5, vR (wR w 10 8 l0)] w (qI fun x4 w3 => ((x4 = 0) → jX10_parcels_17 X A l0 l2 l3 (l5 + 1) w3) ∧ ((¬ x4 = 0) → jX10_parcels_17 X A l0 l2 (l3 ||| ((1 : Int64) <<< (l5.toInt64 &&& 63))) (l5 + 1) w3)))) :
    jX10_parcels_17 X A l0 l2 l3 l5 w := by
  refine e_iload (pc := 17) (i := 5) dX10_parcels_17 rfl ?_
  refine e_bipush (pc := 19) (v := 60) dX10_parcels_19 (by decide) ?_
  refine e_icmp_ge (pc := 21) (tgt := 50) dX10_parcels_21 (by decide) (fun h1 => ?_) (fun h1 => ?_)
  · replace hv := hv.1 h1
    refine e_lload_n (pc := 50) (i := 3) dX10_parcels_50 rfl rfl ?_
    exact e_lreturn (pc := 51) dX10_parcels_51 rfl ⟨_, rfl, hv⟩
  · replace hv := hv.2 h1
    refine e_aload_n (pc := 24) (i := 2) dX10_parcels_24 rfl rfl ?_
    refine e_iload (pc := 25) (i := 5) dX10_parcels_25 rfl ?_
    refine e_aload_n (pc := 27) (i := 0) dX10_parcels_27 rfl rfl ?_
    have k2 := hv.1
    replace hv := hv.2
    refine e_getR (pc := 28) dX10_parcels_28 fRX10_33 rfl k2 ?_
    have k5 := hv.1
    replace hv := hv.2
    refine e_callVi (pc := 31) (ci := 2) (st := []) (rc' := 0) (rs' := 0) (B' := bX2_liesOn) [vI l5, vR (wR w 10 8 l0)] dX10_parcels_31 vRX10_377 kX2_liesOn (by decide) rfl k5 rfl rfl (Nat.le_of_ble_eq_true rfl) ⟨Nat.le_of_ble_eq_true rfl, Nat.le_of_ble_eq_true rfl⟩ rfl rfl hv (fun x4 w3 hv => ?_)
    refine e_if_eq (pc := 34) (tgt := 44) dX10_parcels_34 (by decide) (fun h6 => ?_) (fun h6 => ?_)
    · replace hv := hv.1 h6
      refine e_iinc (pc := 44) (v := l5 + 1) (lv' := [(0, vR l0), (2, vR l2), (3, vJ l3), (5, vI (l5 + 1))]) dX10_parcels_44 rfl rfl (by decide) rfl ?_
      refine e_goto (pc := 47) (tgt := 17) dX10_parcels_47 (by decide) ?_
      exact hv
    · replace hv := hv.2 h6
      refine e_lload_n (pc := 37) (i := 3) dX10_parcels_37 rfl rfl ?_
      refine e_lconst (pc := 38) (v := 1) dX10_parcels_38 (by decide) ?_
      refine e_iload (pc := 39) (i := 5) dX10_parcels_39 rfl ?_
      refine e_lshl (pc := 41) dX10_parcels_41 ?_
      refine e_lor (pc := 42) dX10_parcels_42 ?_
      refine e_lstore_n (pc := 43) (i := 3) (lv' := [(0, vR l0), (2, vR l2), (3, vJ (l3 ||| ((1 : Int64) <<< (l5.toInt64 &&& 63)))), (5, vI l5)]) dX10_parcels_43 rfl (by decide) rfl ?_
      refine e_iinc (pc := 44) (v := l5 + 1) (lv' := [(0, vR l0), (2, vR l2), (3, vJ (l3 ||| ((1 : Int64) <<< (l5.toInt64 &&& 63)))), (5, vI (l5 + 1))]) dX10_parcels_44 rfl rfl (by decide) rfl ?_
      refine e_goto (pc := 47) (tgt := 17) dX10_parcels_47 (by decide) ?_
      exact hv
set_option maxRecDepth 100000 in
set_option maxHeartbeats 4000000 in
theorem oX10_parcels (X : Cx) (A : Int64 → Wd → Prop) (a0 : Nat) (a1 : Int32) (w : Wd)
    (hv : wK w a0 = 11 ∧ Ct X bX10_entryAt mX10_entryAt [vR a0, vI a1] w (qR fun x2 w1 => ((¬ x2 = 0) → jX10_parcels_17 X A a0 x2 0 0 w1) ∧ ((x2 = 0) → A 0 w1))) :
    Ct X bX10_parcels mX10_parcels [vR a0, vI a1] w (qJ A) := by
  refine Ct.of (lv := [(0, vR a0), (1, vI a1)]) rfl (Nat.le_of_ble_eq_true rfl) rfl ?_
  refine e_aload_n (pc := 0) (i := 0) dX10_parcels_0 rfl rfl ?_
  refine e_iload_n (pc := 1) (i := 1) dX10_parcels_1 rfl rfl ?_
  have k3 := hv.1
  replace hv := hv.2
  refine e_callVr (pc := 2) (ci := 10) (st := []) (rc' := 0) (rs' := 0) (B' := bX10_entryAt) [vI a1] dX10_parcels_2 vRX10_133 kX10_entryAt (by decide) rfl k3 rfl rfl (Nat.le_of_ble_eq_true rfl) ⟨Nat.le_of_ble_eq_true rfl, Nat.le_of_ble_eq_true rfl⟩ rfl rfl hv (fun x2 w1 hv => ?_)
  refine e_astore_n (pc := 5) (i := 2) (lv' := [(0, vR a0), (1, vI a1), (2, vR x2)]) dX10_parcels_5 rfl (by decide) rfl ?_
  refine e_aload_n (pc := 6) (i := 2) dX10_parcels_6 rfl rfl ?_
  refine e_ifnonnull (pc := 7) (tgt := 12) dX10_parcels_7 (by decide) (fun h4 => ?_) (fun h4 => ?_)
  · replace hv := hv.1 h4
    refine e_lconst (pc := 12) (v := 0) dX10_parcels_12 (by decide) ?_
    refine e_lstore_n (pc := 13) (i := 3) (lv' := [(0, vR a0), (1, vI a1), (2, vR x2), (3, vJ 0)]) dX10_parcels_13 rfl (by decide) rfl ?_
    refine e_iconst (pc := 14) (v := 0) dX10_parcels_14 (by decide) ?_
    refine e_istore (pc := 15) (i := 5) (lv' := [(0, vR a0), (1, vI a1), (2, vR x2), (3, vJ 0), (5, vI 0)]) dX10_parcels_15 (by decide) rfl ?_
    exact EJ.drop [0, 2, 3, 5] rfl hv
  · replace hv := hv.2 h4
    refine e_lconst (pc := 10) (v := 0) dX10_parcels_10 (by decide) ?_
    exact e_lreturn (pc := 11) dX10_parcels_11 rfl ⟨_, rfl, hv⟩
set_option maxRecDepth 100000 in
set_option maxHeartbeats 4000000 in
theorem oX10_status (X : Cx) (A : Int32 → Wd → Prop) (a0 : Nat) (w : Wd)
    (hv : wK w a0 = 11 ∧ A (wI w 10 13 a0) w) :
    Ct X bX10_status mX10_status [vR a0] w (qI A) := by
  refine Ct.of (lv := [(0, vR a0)]) rfl (Nat.le_of_ble_eq_true rfl) rfl ?_
  refine e_aload_n (pc := 0) (i := 0) dX10_status_0 rfl rfl ?_
  have k1 := hv.1
  replace hv := hv.2
  refine e_getI (pc := 1) dX10_status_1 fRX10_381 rfl k1 ?_
  exact e_ireturn (pc := 4) dX10_status_4 rfl ⟨_, rfl, hv⟩
set_option maxRecDepth 100000 in
set_option maxHeartbeats 4000000 in
theorem oX10_count (X : Cx) (A : Int32 → Wd → Prop) (a0 : Nat) (a1 : Int32) (w : Wd)
    (hv : (a1 = 0 → wK w a0 = 11 ∧ wK w (wR w 10 8 a0) = 5 ∧ A (wI w 4 0 (wR w 10 8 a0)) w) ∧ (a1 = 1 → wK w a0 = 11 ∧ A (wI w 10 3 a0) w) ∧ (a1 = 2 → wK w a0 = 11 ∧ A (wI w 10 4 a0) w) ∧ (a1 = 3 → wK w a0 = 11 ∧ A (wI w 10 5 a0) w) ∧ (a1 = 4 → wK w a0 = 11 ∧ A (wI w 10 9 a0) w) ∧ (a1 = 5 → wK w a0 = 11 ∧ A (wI w 10 12 a0) w) ∧ (a1 = 6 → wK w a0 = 11 ∧ wK w (wR w 10 2 a0) = 2 ∧ A (wI w 1 2 (wR w 10 2 a0)) w) ∧ (¬ a1 = 0 → ¬ a1 = 1 → ¬ a1 = 2 → ¬ a1 = 3 → ¬ a1 = 4 → ¬ a1 = 5 → ¬ a1 = 6 → A (-1) w)) :
    Ct X bX10_count mX10_count [vR a0, vI a1] w (qI A) := by
  refine Ct.of (lv := [(0, vR a0), (1, vI a1)]) rfl (Nat.le_of_ble_eq_true rfl) rfl ?_
  refine e_iload_n (pc := 0) (i := 1) dX10_count_0 rfl rfl ?_
  by_cases h1 : a1 = 0
  · replace hv := hv.1 h1
    refine e_tableK (pc := 1) (tgt := 44) (c := 0) (off := 43) dX10_count_1 h1 (by decide) (by decide) (by decide) (by decide) ?_
    refine e_aload_n (pc := 44) (i := 0) dX10_count_44 rfl rfl ?_
    have k2 := hv.1
    replace hv := hv.2
    refine e_getR (pc := 45) dX10_count_45 fRX10_33 rfl k2 ?_
    have k3 := hv.1
    replace hv := hv.2
    refine e_getI (pc := 48) dX10_count_48 fRX10_69 rfl k3 ?_
    exact e_ireturn (pc := 51) dX10_count_51 rfl ⟨_, rfl, hv⟩
  replace hv := hv.2
  by_cases h4 : a1 = 1
  · replace hv := hv.1 h4
    refine e_tableK (pc := 1) (tgt := 52) (c := 1) (off := 51) dX10_count_1 h4 (by decide) (by decide) (by decide) (by decide) ?_
    refine e_aload_n (pc := 52) (i := 0) dX10_count_52 rfl rfl ?_
    have k5 := hv.1
    replace hv := hv.2
    refine e_getI (pc := 53) dX10_count_53 fRX10_45 rfl k5 ?_
    exact e_ireturn (pc := 56) dX10_count_56 rfl ⟨_, rfl, hv⟩
  replace hv := hv.2
  by_cases h6 : a1 = 2
  · replace hv := hv.1 h6
    refine e_tableK (pc := 1) (tgt := 57) (c := 2) (off := 56) dX10_count_1 h6 (by decide) (by decide) (by decide) (by decide) ?_
    refine e_aload_n (pc := 57) (i := 0) dX10_count_57 rfl rfl ?_
    have k7 := hv.1
    replace hv := hv.2
    refine e_getI (pc := 58) dX10_count_58 fRX10_98 rfl k7 ?_
    exact e_ireturn (pc := 61) dX10_count_61 rfl ⟨_, rfl, hv⟩
  replace hv := hv.2
  by_cases h8 : a1 = 3
  · replace hv := hv.1 h8
    refine e_tableK (pc := 1) (tgt := 62) (c := 3) (off := 61) dX10_count_1 h8 (by decide) (by decide) (by decide) (by decide) ?_
    refine e_aload_n (pc := 62) (i := 0) dX10_count_62 rfl rfl ?_
    have k9 := hv.1
    replace hv := hv.2
    refine e_getI (pc := 63) dX10_count_63 fRX10_223 rfl k9 ?_
    exact e_ireturn (pc := 66) dX10_count_66 rfl ⟨_, rfl, hv⟩
  replace hv := hv.2
  by_cases h10 : a1 = 4
  · replace hv := hv.1 h10
    refine e_tableK (pc := 1) (tgt := 67) (c := 4) (off := 66) dX10_count_1 h10 (by decide) (by decide) (by decide) (by decide) ?_
    refine e_aload_n (pc := 67) (i := 0) dX10_count_67 rfl rfl ?_
    have k11 := hv.1
    replace hv := hv.2
    refine e_getI (pc := 68) dX10_count_68 fRX10_65 rfl k11 ?_
    exact e_ireturn (pc := 71) dX10_count_71 rfl ⟨_, rfl, hv⟩
  replace hv := hv.2
  by_cases h12 : a1 = 5
  · replace hv := hv.1 h12
    refine e_tableK (pc := 1) (tgt := 72) (c := 5) (off := 71) dX10_count_1 h12 (by decide) (by decide) (by decide) (by decide) ?_
    refine e_aload_n (pc := 72) (i := 0) dX10_count_72 rfl rfl ?_
    have k13 := hv.1
    replace hv := hv.2
    refine e_getI (pc := 73) dX10_count_73 fRX10_342 rfl k13 ?_
    exact e_ireturn (pc := 76) dX10_count_76 rfl ⟨_, rfl, hv⟩
  replace hv := hv.2
  by_cases h14 : a1 = 6
  · replace hv := hv.1 h14
    refine e_tableK (pc := 1) (tgt := 77) (c := 6) (off := 76) dX10_count_1 h14 (by decide) (by decide) (by decide) (by decide) ?_
    refine e_aload_n (pc := 77) (i := 0) dX10_count_77 rfl rfl ?_
    have k15 := hv.1
    replace hv := hv.2
    refine e_getR (pc := 78) dX10_count_78 fRX10_24 rfl k15 ?_
    have k16 := hv.1
    replace hv := hv.2
    refine e_getI (pc := 81) dX10_count_81 fRX10_384 rfl k16 ?_
    exact e_ireturn (pc := 84) dX10_count_84 rfl ⟨_, rfl, hv⟩
  replace hv := hv.2
  replace hv := hv h1 h4 h6 h8 h10 h12 h14
  refine e_tableOut (pc := 1) (tgt := 85) dX10_count_1 (by have z0 : ¬ a1.toInt = 0 := lv_neT h1 (by decide); have z1 : ¬ a1.toInt = 1 := lv_neT h4 (by decide); have z2 : ¬ a1.toInt = 2 := lv_neT h6 (by decide); have z3 : ¬ a1.toInt = 3 := lv_neT h8 (by decide); have z4 : ¬ a1.toInt = 4 := lv_neT h10 (by decide); have z5 : ¬ a1.toInt = 5 := lv_neT h12 (by decide); have z6 : ¬ a1.toInt = 6 := lv_neT h14 (by decide); omega) (by decide) ?_
  refine e_iconst (pc := 85) (v := (-1)) dX10_count_85 (by decide) ?_
  exact e_ireturn (pc := 86) dX10_count_86 rfl ⟨_, rfl, hv⟩
set_option maxRecDepth 100000 in
set_option maxHeartbeats 4000000 in
theorem oX10_settle (X : Cx) (A : Int32 → Wd → Prop) (a0 : Nat) (a1 : Int32) (w : Wd)
    (hv : wK w a0 = 11 ∧ ∀ w2 : Wd, w2 = sI w 10 13 a0 a1 → ((¬ a1 = 0) → A 0 w2) ∧ ((a1 = 0) → A 1 w2)) :
    Ct X bX10_settle mX10_settle [vR a0, vI a1] w (qI A) := by
  refine Ct.of (lv := [(0, vR a0), (1, vI a1)]) rfl (Nat.le_of_ble_eq_true rfl) rfl ?_
  refine e_aload_n (pc := 0) (i := 0) dX10_settle_0 rfl rfl ?_
  refine e_iload_n (pc := 1) (i := 1) dX10_settle_1 rfl rfl ?_
  have k1 := hv.1
  replace hv := hv.2
  obtain ⟨w2, hw2⟩ : ∃ w2 : Wd, w2 = sI w 10 13 a0 a1 := ⟨_, rfl⟩
  replace hv := hv w2 hw2
  refine e_putI (pc := 2) dX10_settle_2 fRX10_381 (Or.inl rfl) rfl k1 ?_
  rw [← hw2]
  refine e_iload_n (pc := 5) (i := 1) dX10_settle_5 rfl rfl ?_
  refine e_if_ne (pc := 6) (tgt := 13) dX10_settle_6 (by decide) (fun h3 => ?_) (fun h3 => ?_)
  · replace hv := hv.1 h3
    refine e_iconst (pc := 13) (v := 0) dX10_settle_13 (by decide) ?_
    exact e_zreturn (pc := 14) dX10_settle_14 rfl (Or.inl rfl) ⟨_, rfl, hv⟩
  · replace hv := hv.2 h3
    refine e_iconst (pc := 9) (v := 1) dX10_settle_9 (by decide) ?_
    refine e_goto (pc := 10) (tgt := 14) dX10_settle_10 (by decide) ?_
    exact e_zreturn (pc := 14) dX10_settle_14 rfl (Or.inr rfl) ⟨_, rfl, hv⟩
set_option maxRecDepth 100000 in
set_option maxHeartbeats 4000000 in
theorem oX10_newAct (X : Cx) (A : Nat → Wd → Prop) (a0 : Nat) (w : Wd)
    (hv : ∀ q1 : Nat, wK w q1 = 0 → q1 ≠ 0 → ∀ w2 : Wd, w2 = nO w 0 q1 → wK w2 a0 = 11 ∧ wK w2 (wR w2 10 8 a0) = 5 ∧ Ct X bX0_init mX0_init [vR q1, vI (wI w2 10 9 a0), vI (wI w2 4 0 (wR w2 10 8 a0))] w2 (qV fun w5 => A q1 w5)) :
    Ct X bX10_newAct mX10_newAct [vR a0] w (qR A) := by
  refine Ct.of (lv := [(0, vR a0)]) rfl (Nat.le_of_ble_eq_true rfl) rfl ?_
  refine e_new (pc := 0) (ci := 0) (rc' := 0) (rs' := 0) dX10_newAct_0 (by decide) (tb_a1 207 (by decide +kernel) rfl) dv0 rfl rfl (fun q1 hq1 nq1 => ?_)
  obtain ⟨w2, hw2⟩ : ∃ w2 : Wd, w2 = nO w 0 q1 := ⟨_, rfl⟩
  replace hv := hv q1 hq1 nq1 w2 hw2
  rw [← hw2]
  refine e_dup (pc := 3) dX10_newAct_3 rfl ?_
  refine e_aload_n (pc := 4) (i := 0) dX10_newAct_4 rfl rfl ?_
  have k3 := hv.1
  replace hv := hv.2
  refine e_getI (pc := 5) dX10_newAct_5 fRX10_65 rfl k3 ?_
  refine e_aload_n (pc := 8) (i := 0) dX10_newAct_8 rfl rfl ?_
  refine e_getR (pc := 9) dX10_newAct_9 fRX10_33 rfl k3 ?_
  have k4 := hv.1
  replace hv := hv.2
  refine e_getI (pc := 12) dX10_newAct_12 fRX10_69 rfl k4 ?_
  refine e_callIv (pc := 15) (st := [vR q1]) (rc' := 0) (rs' := 0) (B' := bX0_init) [vI (wI w2 10 9 a0), vI (wI w2 4 0 (wR w2 10 8 a0))] dX10_newAct_15 vRX10_387 kX0_init rfl rfl (K_ne (by rw [hw2]; exact nO_new)) rfl rfl (Nat.le_of_ble_eq_true rfl) ⟨Nat.le_of_ble_eq_true rfl, Nat.le_of_ble_eq_true rfl⟩ rfl rfl hv (fun w5 hv => ?_)
  exact e_areturn (pc := 18) dX10_newAct_18 rfl ⟨_, rfl, hv⟩
set_option maxRecDepth 100000 in
set_option maxHeartbeats 4000000 in
theorem oX10_isPastOrToday (X : Cx) (A : Int32 → Wd → Prop) (a0 : Nat) (a1 : Int32) (w : Wd)
    (hv : ((a1 < 0) → A 0 w) ∧ ((¬ a1 < 0) → wK w a0 = 11 ∧ wK w (wR w 10 8 a0) = 5 ∧ (((wI w 4 0 (wR w 10 8 a0)) < a1) → A 0 w) ∧ ((¬ (wI w 4 0 (wR w 10 8 a0)) < a1) → A 1 w))) :
    Ct X bX10_isPastOrToday mX10_isPastOrToday [vR a0, vI a1] w (qI A) := by
  refine Ct.of (lv := [(0, vR a0), (1, vI a1)]) rfl (Nat.le_of_ble_eq_true rfl) rfl ?_
  refine e_iload_n (pc := 0) (i := 1) dX10_isPastOrToday_0 rfl rfl ?_
  refine e_if_lt (pc := 1) (tgt := 19) dX10_isPastOrToday_1 (by decide) (fun h1 => ?_) (fun h1 => ?_)
  · replace hv := hv.1 h1
    refine e_iconst (pc := 19) (v := 0) dX10_isPastOrToday_19 (by decide) ?_
    exact e_zreturn (pc := 20) dX10_isPastOrToday_20 rfl (Or.inl rfl) ⟨_, rfl, hv⟩
  · replace hv := hv.2 h1
    refine e_iload_n (pc := 4) (i := 1) dX10_isPastOrToday_4 rfl rfl ?_
    refine e_aload_n (pc := 5) (i := 0) dX10_isPastOrToday_5 rfl rfl ?_
    have k2 := hv.1
    replace hv := hv.2
    refine e_getR (pc := 6) dX10_isPastOrToday_6 fRX10_33 rfl k2 ?_
    have k3 := hv.1
    replace hv := hv.2
    refine e_getI (pc := 9) dX10_isPastOrToday_9 fRX10_69 rfl k3 ?_
    refine e_icmp_gt (pc := 12) (tgt := 19) dX10_isPastOrToday_12 (by decide) (fun h4 => ?_) (fun h4 => ?_)
    · replace hv := hv.1 h4
      refine e_iconst (pc := 19) (v := 0) dX10_isPastOrToday_19 (by decide) ?_
      exact e_zreturn (pc := 20) dX10_isPastOrToday_20 rfl (Or.inl rfl) ⟨_, rfl, hv⟩
    · replace hv := hv.2 h4
      refine e_iconst (pc := 15) (v := 1) dX10_isPastOrToday_15 (by decide) ?_
      refine e_goto (pc := 16) (tgt := 20) dX10_isPastOrToday_16 (by decide) ?_
      exact e_zreturn (pc := 20) dX10_isPastOrToday_20 rfl (Or.inr rfl) ⟨_, rfl, hv⟩
set_option maxRecDepth 100000 in
set_option maxHeartbeats 4000000 in
theorem oX10_isSum (X : Cx) (A : Int32 → Wd → Prop) (a0 : Int64) (w : Wd)
    (hv : (((lg_cmp a0 0) < 0) → A 0 w) ∧ ((¬ (lg_cmp a0 0) < 0) → ((0 < (lg_cmp a0 999999999999)) → A 0 w) ∧ ((¬ 0 < (lg_cmp a0 999999999999)) → A 1 w))) :
    Ct X bX10_isSum mX10_isSum [vJ a0] w (qI A) := by
  refine Ct.of (lv := [(0, vJ a0)]) rfl (Nat.le_of_ble_eq_true rfl) rfl ?_
  refine e_lload_n (pc := 0) (i := 0) dX10_isSum_0 rfl rfl ?_
  refine e_lconst (pc := 1) (v := 0) dX10_isSum_1 (by decide) ?_
  refine e_lcmp (pc := 2) dX10_isSum_2 ?_
  refine e_if_lt (pc := 3) (tgt := 18) dX10_isSum_3 (by decide) (fun h1 => ?_) (fun h1 => ?_)
  · replace hv := hv.1 h1
    refine e_iconst (pc := 18) (v := 0) dX10_isSum_18 (by decide) ?_
    exact e_zreturn (pc := 19) dX10_isSum_19 rfl (Or.inl rfl) ⟨_, rfl, hv⟩
  · replace hv := hv.2 h1
    refine e_lload_n (pc := 6) (i := 0) dX10_isSum_6 rfl rfl ?_
    refine e_ldc2 (pc := 7) (v := 999999999999) dX10_isSum_7 (tb_a1 199 (by decide +kernel) rfl) ?_
    refine e_lcmp (pc := 10) dX10_isSum_10 ?_
    refine e_if_gt (pc := 11) (tgt := 18) dX10_isSum_11 (by decide) (fun h2 => ?_) (fun h2 => ?_)
    · replace hv := hv.1 h2
      refine e_iconst (pc := 18) (v := 0) dX10_isSum_18 (by decide) ?_
      exact e_zreturn (pc := 19) dX10_isSum_19 rfl (Or.inl rfl) ⟨_, rfl, hv⟩
    · replace hv := hv.2 h2
      refine e_iconst (pc := 14) (v := 1) dX10_isSum_14 (by decide) ?_
      refine e_goto (pc := 15) (tgt := 19) dX10_isSum_15 (by decide) ?_
      exact e_zreturn (pc := 19) dX10_isSum_19 rfl (Or.inr rfl) ⟨_, rfl, hv⟩
set_option maxRecDepth 100000 in
set_option maxHeartbeats 4000000 in
theorem oX10_liveInOneFolio (X : Cx) (A : Int32 → Wd → Prop) (a0 : Nat) (a1 : Nat) (a2 : Nat) (w : Wd)
    (hv : wK w a0 = 11 ∧ wK w a1 = 10 ∧ Ct X bX9_livesAt mX9_livesAt [vR a1, vR (wR w 10 8 a0)] w (qI fun x3 w2 => ((x3 = 0) → A 0 w2) ∧ ((¬ x3 = 0) → wK w2 a0 = 11 ∧ wK w2 a2 = 10 ∧ Ct X bX9_livesAt mX9_livesAt [vR a2, vR (wR w2 10 8 a0)] w2 (qI fun x8 w7 => ((x8 = 0) → A 0 w7) ∧ ((¬ x8 = 0) → wK w7 a1 = 10 ∧ wK w7 a2 = 10 ∧ ((¬ (wR w7 9 0 a1) = (wR w7 9 0 a2)) → A 0 w7) ∧ (((wR w7 9 0 a1) = (wR w7 9 0 a2)) → A 1 w7)))))) :
    Ct X bX10_liveInOneFolio mX10_liveInOneFolio [vR a0, vR a1, vR a2] w (qI A) := by
  refine Ct.of (lv := [(0, vR a0), (1, vR a1), (2, vR a2)]) rfl (Nat.le_of_ble_eq_true rfl) rfl ?_
  refine e_aload_n (pc := 0) (i := 1) dX10_liveInOneFolio_0 rfl rfl ?_
  refine e_aload_n (pc := 1) (i := 0) dX10_liveInOneFolio_1 rfl rfl ?_
  have k1 := hv.1
  replace hv := hv.2
  refine e_getR (pc := 2) dX10_liveInOneFolio_2 fRX10_33 rfl k1 ?_
  have k4 := hv.1
  replace hv := hv.2
  refine e_callVi (pc := 5) (ci := 9) (st := []) (rc' := 0) (rs' := 0) (B' := bX9_livesAt) [vR (wR w 10 8 a0)] dX10_liveInOneFolio_5 vRX10_174 kX9_livesAt (by decide) rfl k4 rfl rfl (Nat.le_of_ble_eq_true rfl) ⟨Nat.le_of_ble_eq_true rfl, Nat.le_of_ble_eq_true rfl⟩ rfl rfl hv (fun x3 w2 hv => ?_)
  refine e_if_eq (pc := 8) (tgt := 37) dX10_liveInOneFolio_8 (by decide) (fun h5 => ?_) (fun h5 => ?_)
  · replace hv := hv.1 h5
    refine e_iconst (pc := 37) (v := 0) dX10_liveInOneFolio_37 (by decide) ?_
    exact e_zreturn (pc := 38) dX10_liveInOneFolio_38 rfl (Or.inl rfl) ⟨_, rfl, hv⟩
  · replace hv := hv.2 h5
    refine e_aload_n (pc := 11) (i := 2) dX10_liveInOneFolio_11 rfl rfl ?_
    refine e_aload_n (pc := 12) (i := 0) dX10_liveInOneFolio_12 rfl rfl ?_
    have k6 := hv.1
    replace hv := hv.2
    refine e_getR (pc := 13) dX10_liveInOneFolio_13 fRX10_33 rfl k6 ?_
    have k9 := hv.1
    replace hv := hv.2
    refine e_callVi (pc := 16) (ci := 9) (st := []) (rc' := 0) (rs' := 0) (B' := bX9_livesAt) [vR (wR w2 10 8 a0)] dX10_liveInOneFolio_16 vRX10_174 kX9_livesAt (by decide) rfl k9 rfl rfl (Nat.le_of_ble_eq_true rfl) ⟨Nat.le_of_ble_eq_true rfl, Nat.le_of_ble_eq_true rfl⟩ rfl rfl hv (fun x8 w7 hv => ?_)
    refine e_if_eq (pc := 19) (tgt := 37) dX10_liveInOneFolio_19 (by decide) (fun h10 => ?_) (fun h10 => ?_)
    · replace hv := hv.1 h10
      refine e_iconst (pc := 37) (v := 0) dX10_liveInOneFolio_37 (by decide) ?_
      exact e_zreturn (pc := 38) dX10_liveInOneFolio_38 rfl (Or.inl rfl) ⟨_, rfl, hv⟩
    · replace hv := hv.2 h10
      refine e_aload_n (pc := 22) (i := 1) dX10_liveInOneFolio_22 rfl rfl ?_
      have k11 := hv.1
      replace hv := hv.2
      refine e_getR (pc := 23) dX10_liveInOneFolio_23 fRX10_326 rfl k11 ?_
      refine e_aload_n (pc := 26) (i := 2) dX10_liveInOneFolio_26 rfl rfl ?_
      have k12 := hv.1
      replace hv := hv.2
      refine e_getR (pc := 27) dX10_liveInOneFolio_27 fRX10_326 rfl k12 ?_
      refine e_acmp_ne (pc := 30) (tgt := 37) dX10_liveInOneFolio_30 (by decide) (fun h13 => ?_) (fun h13 => ?_)
      · replace hv := hv.1 h13
        refine e_iconst (pc := 37) (v := 0) dX10_liveInOneFolio_37 (by decide) ?_
        exact e_zreturn (pc := 38) dX10_liveInOneFolio_38 rfl (Or.inl rfl) ⟨_, rfl, hv⟩
      · replace hv := hv.2 h13
        refine e_iconst (pc := 33) (v := 1) dX10_liveInOneFolio_33 (by decide) ?_
        refine e_goto (pc := 34) (tgt := 38) dX10_liveInOneFolio_34 (by decide) ?_
        exact e_zreturn (pc := 38) dX10_liveInOneFolio_38 rfl (Or.inr rfl) ⟨_, rfl, hv⟩
set_option maxRecDepth 100000 in
set_option maxHeartbeats 4000000 in
theorem oX10_parcelFault (X : Cx) (A : Int32 → Wd → Prop) (a0 : Nat) (a1 : Int32) (w : Wd)
    (hv : ((¬ a0 = 0) → wK w a0 = 4 ∧ Ct X bX3_hasParcel mX3_hasParcel [vR a0, vI a1] w (qI fun x3 w2 => ((¬ x3 = 0) → wK w2 a0 = 4 ∧ Ct X bX3_isTorn mX3_isTorn [vR a0, vI a1] w2 (qI fun x7 w6 => ((x7 = 0) → A 0 w6) ∧ ((¬ x7 = 0) → A 3 w6))) ∧ ((x3 = 0) → A 2 w2))) ∧ ((a0 = 0) → A 1 w)) :
    Ct X bX10_parcelFault mX10_parcelFault [vR a0, vI a1] w (qI A) := by
  refine Ct.of (lv := [(0, vR a0), (1, vI a1)]) rfl (Nat.le_of_ble_eq_true rfl) rfl ?_
  refine e_aload_n (pc := 0) (i := 0) dX10_parcelFault_0 rfl rfl ?_
  refine e_ifnonnull (pc := 1) (tgt := 6) dX10_parcelFault_1 (by decide) (fun h1 => ?_) (fun h1 => ?_)
  · replace hv := hv.1 h1
    refine e_aload_n (pc := 6) (i := 0) dX10_parcelFault_6 rfl rfl ?_
    refine e_iload_n (pc := 7) (i := 1) dX10_parcelFault_7 rfl rfl ?_
    have k4 := hv.1
    replace hv := hv.2
    refine e_callVi (pc := 8) (ci := 3) (st := []) (rc' := 0) (rs' := 0) (B' := bX3_hasParcel) [vI a1] dX10_parcelFault_8 vRX10_390 kX3_hasParcel (by decide) rfl k4 rfl rfl (Nat.le_of_ble_eq_true rfl) ⟨Nat.le_of_ble_eq_true rfl, Nat.le_of_ble_eq_true rfl⟩ rfl rfl hv (fun x3 w2 hv => ?_)
    refine e_if_ne (pc := 11) (tgt := 16) dX10_parcelFault_11 (by decide) (fun h5 => ?_) (fun h5 => ?_)
    · replace hv := hv.1 h5
      refine e_aload_n (pc := 16) (i := 0) dX10_parcelFault_16 rfl rfl ?_
      refine e_iload_n (pc := 17) (i := 1) dX10_parcelFault_17 rfl rfl ?_
      have k8 := hv.1
      replace hv := hv.2
      refine e_callVi (pc := 18) (ci := 3) (st := []) (rc' := 0) (rs' := 0) (B' := bX3_isTorn) [vI a1] dX10_parcelFault_18 vRX10_393 kX3_isTorn (by decide) rfl k8 rfl rfl (Nat.le_of_ble_eq_true rfl) ⟨Nat.le_of_ble_eq_true rfl, Nat.le_of_ble_eq_true rfl⟩ rfl rfl hv (fun x7 w6 hv => ?_)
      refine e_if_eq (pc := 21) (tgt := 28) dX10_parcelFault_21 (by decide) (fun h9 => ?_) (fun h9 => ?_)
      · replace hv := hv.1 h9
        refine e_iconst (pc := 28) (v := 0) dX10_parcelFault_28 (by decide) ?_
        exact e_ireturn (pc := 29) dX10_parcelFault_29 rfl ⟨_, rfl, hv⟩
      · replace hv := hv.2 h9
        refine e_iconst (pc := 24) (v := 3) dX10_parcelFault_24 (by decide) ?_
        refine e_goto (pc := 25) (tgt := 29) dX10_parcelFault_25 (by decide) ?_
        exact e_ireturn (pc := 29) dX10_parcelFault_29 rfl ⟨_, rfl, hv⟩
    · replace hv := hv.2 h5
      refine e_iconst (pc := 14) (v := 2) dX10_parcelFault_14 (by decide) ?_
      exact e_ireturn (pc := 15) dX10_parcelFault_15 rfl ⟨_, rfl, hv⟩
  · replace hv := hv.2 h1
    refine e_iconst (pc := 4) (v := 1) dX10_parcelFault_4 (by decide) ?_
    exact e_ireturn (pc := 5) dX10_parcelFault_5 rfl ⟨_, rfl, hv⟩
set_option maxRecDepth 100000 in
set_option maxHeartbeats 4000000 in
theorem oX10_lieFault (X : Cx) (A : Int32 → Wd → Prop) (a0 : Nat) (a1 : Nat) (a2 : Int32) (w : Wd)
    (hv : ((¬ a1 = 0) → wK w a1 = 3 ∧ wK w (wR w 2 1 a1) = 10 ∧ Ct X bX10_parcelFault mX10_parcelFault [vR (wR w 9 0 (wR w 2 1 a1)), vI a2] w (qI fun x5 w4 => ((x5 = 0) → wK w4 a0 = 11 ∧ wK w4 a1 = 3 ∧ Ct X bX2_liesOn mX2_liesOn [vR a1, vI a2, vR (wR w4 10 8 a0)] w4 (qI fun x9 w8 => ((x9 = 0) → A 6 w8) ∧ ((¬ x9 = 0) → A 0 w8))) ∧ ((¬ x5 = 0) → A x5 w4))) ∧ ((a1 = 0) → A 1 w)) :
    Ct X bX10_lieFault mX10_lieFault [vR a0, vR a1, vI a2] w (qI A) := by
  refine Ct.of (lv := [(0, vR a0), (1, vR a1), (2, vI a2)]) rfl (Nat.le_of_ble_eq_true rfl) rfl ?_
  refine e_aload_n (pc := 0) (i := 1) dX10_lieFault_0 rfl rfl ?_
  refine e_ifnonnull (pc := 1) (tgt := 6) dX10_lieFault_1 (by decide) (fun h1 => ?_) (fun h1 => ?_)
  · replace hv := hv.1 h1
    refine e_aload_n (pc := 6) (i := 1) dX10_lieFault_6 rfl rfl ?_
    have k2 := hv.1
    replace hv := hv.2
    refine e_getR (pc := 7) dX10_lieFault_7 fRX10_141 rfl k2 ?_
    have k3 := hv.1
    replace hv := hv.2
    refine e_getR (pc := 10) dX10_lieFault_10 fRX10_326 rfl k3 ?_
    refine e_iload_n (pc := 13) (i := 2) dX10_lieFault_13 rfl rfl ?_
    refine e_callSi (pc := 14) (st := []) (rc' := 0) (rs' := 0) (B' := bX10_parcelFault) [vR (wR w 9 0 (wR w 2 1 a1)), vI a2] dX10_lieFault_14 vRX10_54 kX10_parcelFault rfl rfl (Nat.le_of_ble_eq_true rfl) ⟨Nat.le_of_ble_eq_true rfl, Nat.le_of_ble_eq_true rfl⟩ rfl rfl hv (fun x5 w4 hv => ?_)
    refine e_istore_n (pc := 17) (i := 3) (lv' := [(0, vR a0), (1, vR a1), (2, vI a2), (3, vI x5)]) dX10_lieFault_17 rfl (by decide) rfl ?_
    refine e_iload_n (pc := 18) (i := 3) dX10_lieFault_18 rfl rfl ?_
    refine e_if_eq (pc := 19) (tgt := 24) dX10_lieFault_19 (by decide) (fun h6 => ?_) (fun h6 => ?_)
    · replace hv := hv.1 h6
      refine e_aload_n (pc := 24) (i := 1) dX10_lieFault_24 rfl rfl ?_
      refine e_iload_n (pc := 25) (i := 2) dX10_lieFault_25 rfl rfl ?_
      refine e_aload_n (pc := 26) (i := 0) dX10_lieFault_26 rfl rfl ?_
      have k7 := hv.1
      replace hv := hv.2
      refine e_getR (pc := 27) dX10_lieFault_27 fRX10_33 rfl k7 ?_
      have k10 := hv.1
      replace hv := hv.2
      refine e_callVi (pc := 30) (ci := 2) (st := []) (rc' := 0) (rs' := 0) (B' := bX2_liesOn) [vI a2, vR (wR w4 10 8 a0)] dX10_lieFault_30 vRX10_377 kX2_liesOn (by decide) rfl k10 rfl rfl (Nat.le_of_ble_eq_true rfl) ⟨Nat.le_of_ble_eq_true rfl, Nat.le_of_ble_eq_true rfl⟩ rfl rfl hv (fun x9 w8 hv => ?_)
      refine e_if_eq (pc := 33) (tgt := 40) dX10_lieFault_33 (by decide) (fun h11 => ?_) (fun h11 => ?_)
      · replace hv := hv.1 h11
        refine e_bipush (pc := 40) (v := 6) dX10_lieFault_40 (by decide) ?_
        exact e_ireturn (pc := 42) dX10_lieFault_42 rfl ⟨_, rfl, hv⟩
      · replace hv := hv.2 h11
        refine e_iconst (pc := 36) (v := 0) dX10_lieFault_36 (by decide) ?_
        refine e_goto (pc := 37) (tgt := 42) dX10_lieFault_37 (by decide) ?_
        exact e_ireturn (pc := 42) dX10_lieFault_42 rfl ⟨_, rfl, hv⟩
    · replace hv := hv.2 h6
      refine e_iload_n (pc := 22) (i := 3) dX10_lieFault_22 rfl rfl ?_
      exact e_ireturn (pc := 23) dX10_lieFault_23 rfl ⟨_, rfl, hv⟩
  · replace hv := hv.2 h1
    refine e_iconst (pc := 4) (v := 1) dX10_lieFault_4 (by decide) ?_
    exact e_ireturn (pc := 5) dX10_lieFault_5 rfl ⟨_, rfl, hv⟩
set_option maxRecDepth 100000 in
set_option maxHeartbeats 4000000 in
theorem oX10_folioAt (X : Cx) (A : Nat → Wd → Prop) (a0 : Nat) (a1 : Int32) (w : Wd)
    (hv : ((a1 < 0) → A 0 w) ∧ ((¬ a1 < 0) → wK w a0 = 11 ∧ (((wI w 10 3 a0) ≤ a1) → A 0 w) ∧ ((¬ (wI w 10 3 a0) ≤ a1) → wK w (wR w 10 0 a0) = 18 ∧ vp_in a1 (wL w (wR w 10 0 a0)) ∧ A (xR w (wR w 10 0 a0) a1.toNatClampNeg) w))) :
    Ct X bX10_folioAt mX10_folioAt [vR a0, vI a1] w (qR A) := by
  refine Ct.of (lv := [(0, vR a0), (1, vI a1)]) rfl (Nat.le_of_ble_eq_true rfl) rfl ?_
  refine e_iload_n (pc := 0) (i := 1) dX10_folioAt_0 rfl rfl ?_
  refine e_if_lt (pc := 1) (tgt := 21) dX10_folioAt_1 (by decide) (fun h1 => ?_) (fun h1 => ?_)
  · replace hv := hv.1 h1
    refine e_null (pc := 21) dX10_folioAt_21 ?_
    exact e_areturn (pc := 22) dX10_folioAt_22 rfl ⟨_, rfl, hv⟩
  · replace hv := hv.2 h1
    refine e_iload_n (pc := 4) (i := 1) dX10_folioAt_4 rfl rfl ?_
    refine e_aload_n (pc := 5) (i := 0) dX10_folioAt_5 rfl rfl ?_
    have k2 := hv.1
    replace hv := hv.2
    refine e_getI (pc := 6) dX10_folioAt_6 fRX10_45 rfl k2 ?_
    refine e_icmp_ge (pc := 9) (tgt := 21) dX10_folioAt_9 (by decide) (fun h3 => ?_) (fun h3 => ?_)
    · replace hv := hv.1 h3
      refine e_null (pc := 21) dX10_folioAt_21 ?_
      exact e_areturn (pc := 22) dX10_folioAt_22 rfl ⟨_, rfl, hv⟩
    · replace hv := hv.2 h3
      refine e_aload_n (pc := 12) (i := 0) dX10_folioAt_12 rfl rfl ?_
      refine e_getR (pc := 13) dX10_folioAt_13 fRX10_11 rfl k2 ?_
      refine e_iload_n (pc := 16) (i := 1) dX10_folioAt_16 rfl rfl ?_
      have k4 := hv.1
      replace hv := hv.2
      have hi5 := hv.1
      replace hv := hv.2
      refine e_aald (pc := 17) dX10_folioAt_17 (by decide) (by decide) k4 hi5 ?_
      refine e_goto (pc := 18) (tgt := 22) dX10_folioAt_18 (by decide) ?_
      exact e_areturn (pc := 22) dX10_folioAt_22 rfl ⟨_, rfl, hv⟩
set_option maxRecDepth 100000 in
set_option maxHeartbeats 4000000 in
theorem oX10_entryAt (X : Cx) (A : Nat → Wd → Prop) (a0 : Nat) (a1 : Int32) (w : Wd)
    (hv : ((a1 < 1) → A 0 w) ∧ ((¬ a1 < 1) → wK w a0 = 11 ∧ (((wI w 10 4 a0) < a1) → A 0 w) ∧ ((¬ (wI w 10 4 a0) < a1) → wK w (wR w 10 1 a0) = 17 ∧ vp_in (a1 - 1) (wL w (wR w 10 1 a0)) ∧ A (xR w (wR w 10 1 a0) (a1 - 1).toNatClampNeg) w))) :
    Ct X bX10_entryAt mX10_entryAt [vR a0, vI a1] w (qR A) := by
  refine Ct.of (lv := [(0, vR a0), (1, vI a1)]) rfl (Nat.le_of_ble_eq_true rfl) rfl ?_
  refine e_iload_n (pc := 0) (i := 1) dX10_entryAt_0 rfl rfl ?_
  refine e_iconst (pc := 1) (v := 1) dX10_entryAt_1 (by decide) ?_
  refine e_icmp_lt (pc := 2) (tgt := 24) dX10_entryAt_2 (by decide) (fun h1 => ?_) (fun h1 => ?_)
  · replace hv := hv.1 h1
    refine e_null (pc := 24) dX10_entryAt_24 ?_
    exact e_areturn (pc := 25) dX10_entryAt_25 rfl ⟨_, rfl, hv⟩
  · replace hv := hv.2 h1
    refine e_iload_n (pc := 5) (i := 1) dX10_entryAt_5 rfl rfl ?_
    refine e_aload_n (pc := 6) (i := 0) dX10_entryAt_6 rfl rfl ?_
    have k2 := hv.1
    replace hv := hv.2
    refine e_getI (pc := 7) dX10_entryAt_7 fRX10_98 rfl k2 ?_
    refine e_icmp_gt (pc := 10) (tgt := 24) dX10_entryAt_10 (by decide) (fun h3 => ?_) (fun h3 => ?_)
    · replace hv := hv.1 h3
      refine e_null (pc := 24) dX10_entryAt_24 ?_
      exact e_areturn (pc := 25) dX10_entryAt_25 rfl ⟨_, rfl, hv⟩
    · replace hv := hv.2 h3
      refine e_aload_n (pc := 13) (i := 0) dX10_entryAt_13 rfl rfl ?_
      refine e_getR (pc := 14) dX10_entryAt_14 fRX10_17 rfl k2 ?_
      refine e_iload_n (pc := 17) (i := 1) dX10_entryAt_17 rfl rfl ?_
      refine e_iconst (pc := 18) (v := 1) dX10_entryAt_18 (by decide) ?_
      refine e_isub (pc := 19) dX10_entryAt_19 ?_
      have k4 := hv.1
      replace hv := hv.2
      have hi5 := hv.1
      replace hv := hv.2
      refine e_aald (pc := 20) dX10_entryAt_20 (by decide) (by decide) k4 hi5 ?_
      refine e_goto (pc := 21) (tgt := 25) dX10_entryAt_21 (by decide) ?_
      exact e_areturn (pc := 25) dX10_entryAt_25 rfl ⟨_, rfl, hv⟩
abbrev jX10_postAt_5 (X : Cx) (A : Nat → Wd → Prop) (l1 : Int32) (l2 : Nat) (w : Wd) : Prop := EJ X mX10_postAt (vw X bX10_postAt (qR A)) 0 0 5 [(1, vI l1), (2, vR l2)] [] w
set_option maxRecDepth 100000 in
set_option maxHeartbeats 4000000 in
theorem tX10_postAt_5 (X : Cx) (A : Nat → Wd → Prop) (l1 : Int32) (l2 : Nat) (w : Wd)
    (hv : ((l2 = 0) → A 0 w) ∧ ((¬ l2 = 0) → wK w l2 = 6 ∧ ((¬ (wI w 5 0 l2) = l1) → jX10_postAt_5 X A l1 (wR w 5 6 l2) w) ∧ (((wI w 5 0 l2) = l1) → A l2 w))) :
    jX10_postAt_5 X A l1 l2 w := by
  refine e_aload_n (pc := 5) (i := 2) dX10_postAt_5 rfl rfl ?_
  refine e_ifnull (pc := 6) (tgt := 27) dX10_postAt_6 (by decide) (fun h1 => ?_) (fun h1 => ?_)
  · replace hv := hv.1 h1
    refine e_null (pc := 27) dX10_postAt_27 ?_
    exact e_areturn (pc := 28) dX10_postAt_28 rfl ⟨_, rfl, hv⟩
  · replace hv := hv.2 h1
    refine e_aload_n (pc := 9) (i := 2) dX10_postAt_9 rfl rfl ?_
    have k2 := hv.1
    replace hv := hv.2
    refine e_getI (pc := 10) dX10_postAt_10 fRX10_239 rfl k2 ?_
    refine e_iload_n (pc := 13) (i := 1) dX10_postAt_13 rfl rfl ?_
    refine e_icmp_ne (pc := 14) (tgt := 19) dX10_postAt_14 (by decide) (fun h3 => ?_) (fun h3 => ?_)
    · replace hv := hv.1 h3
      refine e_aload_n (pc := 19) (i := 2) dX10_postAt_19 rfl rfl ?_
      refine e_getR (pc := 20) dX10_postAt_20 fRX10_236 rfl k2 ?_
      refine e_astore_n (pc := 23) (i := 2) (lv' := [(1, vI l1), (2, vR (wR w 5 6 l2))]) dX10_postAt_23 rfl (by decide) rfl ?_
      refine e_goto (pc := 24) (tgt := 5) dX10_postAt_24 (by decide) ?_
      exact hv
    · replace hv := hv.2 h3
      refine e_aload_n (pc := 17) (i := 2) dX10_postAt_17 rfl rfl ?_
      exact e_areturn (pc := 18) dX10_postAt_18 rfl ⟨_, rfl, hv⟩
set_option maxRecDepth 100000 in
set_option maxHeartbeats 4000000 in
theorem oX10_postAt (X : Cx) (A : Nat → Wd → Prop) (a0 : Nat) (a1 : Int32) (w : Wd)
    (hv : wK w a0 = 11 ∧ jX10_postAt_5 X A a1 (wR w 10 6 a0) w) :
    Ct X bX10_postAt mX10_postAt [vR a0, vI a1] w (qR A) := by
  refine Ct.of (lv := [(0, vR a0), (1, vI a1)]) rfl (Nat.le_of_ble_eq_true rfl) rfl ?_
  refine e_aload_n (pc := 0) (i := 0) dX10_postAt_0 rfl rfl ?_
  have k1 := hv.1
  replace hv := hv.2
  refine e_getR (pc := 1) dX10_postAt_1 fRX10_233 rfl k1 ?_
  refine e_astore_n (pc := 4) (i := 2) (lv' := [(0, vR a0), (1, vI a1), (2, vR (wR w 10 6 a0))]) dX10_postAt_4 rfl (by decide) rfl ?_
  exact EJ.drop [1, 2] rfl hv
set_option maxRecDepth 100000 in
set_option maxHeartbeats 4000000 in
theorem oX10_addEntry (X : Cx) (A : Int32 → Wd → Prop) (a0 : Nat) (a1 : Nat) (w : Wd)
    (hv : wK w a0 = 11 ∧ wK w (wR w 10 1 a0) = 17 ∧ (((wI w 10 4 a0) < (Int32.ofNat (wL w (wR w 10 1 a0)))) → wK w a1 = 3 ∧ vp_in (wI w 10 4 a0) (wL w (wR w 10 1 a0)) ∧ ∀ w6 : Wd, w6 = yR w (wR w 10 1 a0) (wI w 10 4 a0).toNatClampNeg a1 → ∀ w8 : Wd, w8 = sI w6 10 4 a0 ((wI w6 10 4 a0) + 1) → A (wI w8 2 0 a1) w8) ∧ ((¬ (wI w 10 4 a0) < (Int32.ofNat (wL w (wR w 10 1 a0)))) → A (-1) w)) :
    Ct X bX10_addEntry mX10_addEntry [vR a0, vR a1] w (qI A) := by
  refine Ct.of (lv := [(0, vR a0), (1, vR a1)]) rfl (Nat.le_of_ble_eq_true rfl) rfl ?_
  refine e_aload_n (pc := 0) (i := 0) dX10_addEntry_0 rfl rfl ?_
  have k1 := hv.1
  replace hv := hv.2
  refine e_getI (pc := 1) dX10_addEntry_1 fRX10_98 rfl k1 ?_
  refine e_aload_n (pc := 4) (i := 0) dX10_addEntry_4 rfl rfl ?_
  refine e_getR (pc := 5) dX10_addEntry_5 fRX10_17 rfl k1 ?_
  have k2 := hv.1
  replace hv := hv.2
  refine e_alen (pc := 8) dX10_addEntry_8 (by decide) (by decide) k2 ?_
  refine e_icmp_lt (pc := 9) (tgt := 14) dX10_addEntry_9 (by decide) (fun h3 => ?_) (fun h3 => ?_)
  · replace hv := hv.1 h3
    refine e_aload_n (pc := 14) (i := 0) dX10_addEntry_14 rfl rfl ?_
    refine e_getR (pc := 15) dX10_addEntry_15 fRX10_17 rfl k1 ?_
    refine e_aload_n (pc := 18) (i := 0) dX10_addEntry_18 rfl rfl ?_
    refine e_getI (pc := 19) dX10_addEntry_19 fRX10_98 rfl k1 ?_
    refine e_aload_n (pc := 22) (i := 1) dX10_addEntry_22 rfl rfl ?_
    have k4 := hv.1
    replace hv := hv.2
    have hi5 := hv.1
    replace hv := hv.2
    obtain ⟨w6, hw6⟩ : ∃ w6 : Wd, w6 = yR w (wR w 10 1 a0) (wI w 10 4 a0).toNatClampNeg a1 := ⟨_, rfl⟩
    replace hv := hv w6 hw6
    refine e_aast (pc := 23) dX10_addEntry_23 (Or.inr (Or.inl ⟨rfl, rfl⟩)) k2 k4 hi5 ?_
    rw [← hw6]
    refine e_aload_n (pc := 24) (i := 0) dX10_addEntry_24 rfl rfl ?_
    refine e_dup (pc := 25) dX10_addEntry_25 rfl ?_
    have k7 : wK w6 a0 = 11 := (by rw [hw6]; exact k1)
    refine e_getI (pc := 26) dX10_addEntry_26 fRX10_98 rfl k7 ?_
    refine e_iconst (pc := 29) (v := 1) dX10_addEntry_29 (by decide) ?_
    refine e_iadd (pc := 30) dX10_addEntry_30 ?_
    obtain ⟨w8, hw8⟩ : ∃ w8 : Wd, w8 = sI w6 10 4 a0 ((wI w6 10 4 a0) + 1) := ⟨_, rfl⟩
    replace hv := hv w8 hw8
    refine e_putI (pc := 31) dX10_addEntry_31 fRX10_98 (Or.inl rfl) rfl k7 ?_
    rw [← hw8]
    refine e_aload_n (pc := 34) (i := 1) dX10_addEntry_34 rfl rfl ?_
    have k9 : wK w8 a1 = 3 := (by rw [hw8]; exact (by rw [hw6]; exact k4))
    refine e_getI (pc := 35) dX10_addEntry_35 fRX10_364 rfl k9 ?_
    exact e_ireturn (pc := 38) dX10_addEntry_38 rfl ⟨_, rfl, hv⟩
  · replace hv := hv.2 h3
    refine e_iconst (pc := 12) (v := (-1)) dX10_addEntry_12 (by decide) ?_
    exact e_ireturn (pc := 13) dX10_addEntry_13 rfl ⟨_, rfl, hv⟩
