set_option maxRecDepth 100000 in
set_option maxHeartbeats 4000000 in
theorem oX11_many (X : Cx) (A : Int32 → Wd → Prop) (a0 : Nat) (a1 : Int32) (a2 : Int32) (w : Wd)
    (hv : wK w a0 = 12 ∧ Ct X bX11_wrong mX11_wrong [vR a0, vI a1, vI a2] w (qI fun x2 w1 => ((x2 ≤ 0) → wK w1 a0 = 12 ∧ Ct X bX11_now mX11_now [vR a0] w1 (qV fun w5 => wK w5 a0 = 12 ∧ Ct X bX11_orderOn mX11_orderOn [vR a0, vI a1, vI a2] w5 (qV fun w8 => wK w8 a0 = 12 ∧ ∀ w12 : Wd, w12 = sI w8 11 41 a0 0 → A (wI w12 11 58 a0) w12))) ∧ ((¬ x2 ≤ 0) → wK w1 a0 = 12 ∧ Ct X bX11_refuse mX11_refuse [vR a0, vI x2] w1 (qI fun x15 w14 => A x15 w14)))) :
    Ct X bX11_many mX11_many [vR a0, vI a1, vI a2] w (qI A) := by
  refine Ct.of (lv := [(0, vR a0), (1, vI a1), (2, vI a2)]) rfl (Nat.le_of_ble_eq_true rfl) rfl ?_
  refine e_aload_n (pc := 0) (i := 0) dX11_many_0 rfl rfl ?_
  refine e_iload_n (pc := 1) (i := 1) dX11_many_1 rfl rfl ?_
  refine e_iload_n (pc := 2) (i := 2) dX11_many_2 rfl rfl ?_
  have k3 := hv.1
  replace hv := hv.2
  refine e_callVi (pc := 3) (ci := 11) (st := []) (rc' := 0) (rs' := 0) (B' := bX11_wrong) [vI a1, vI a2] dX11_many_3 vRX11_235 kX11_wrong (by decide) rfl k3 rfl rfl (Nat.le_of_ble_eq_true rfl) ⟨Nat.le_of_ble_eq_true rfl, Nat.le_of_ble_eq_true rfl⟩ rfl rfl hv (fun x2 w1 hv => ?_)
  refine e_istore_n (pc := 6) (i := 3) (lv' := [(0, vR a0), (1, vI a1), (2, vI a2), (3, vI x2)]) dX11_many_6 rfl (by decide) rfl ?_
  refine e_iload_n (pc := 7) (i := 3) dX11_many_7 rfl rfl ?_
  refine e_if_le (pc := 8) (tgt := 17) dX11_many_8 (by decide) (fun h4 => ?_) (fun h4 => ?_)
  · replace hv := hv.1 h4
    refine e_aload_n (pc := 17) (i := 0) dX11_many_17 rfl rfl ?_
    have k7 := hv.1
    replace hv := hv.2
    refine e_callVv (pc := 18) (ci := 11) (st := []) (rc' := 0) (rs' := 0) (B' := bX11_now) [] dX11_many_18 vRX11_257 kX11_now (by decide) rfl k7 rfl rfl (Nat.le_of_ble_eq_true rfl) ⟨Nat.le_of_ble_eq_true rfl, Nat.le_of_ble_eq_true rfl⟩ rfl rfl hv (fun w5 hv => ?_)
    refine e_aload_n (pc := 21) (i := 0) dX11_many_21 rfl rfl ?_
    refine e_iload_n (pc := 22) (i := 1) dX11_many_22 rfl rfl ?_
    refine e_iload_n (pc := 23) (i := 2) dX11_many_23 rfl rfl ?_
    have k10 := hv.1
    replace hv := hv.2
    refine e_callVv (pc := 24) (ci := 11) (st := []) (rc' := 0) (rs' := 0) (B' := bX11_orderOn) [vI a1, vI a2] dX11_many_24 vRX11_325 kX11_orderOn (by decide) rfl k10 rfl rfl (Nat.le_of_ble_eq_true rfl) ⟨Nat.le_of_ble_eq_true rfl, Nat.le_of_ble_eq_true rfl⟩ rfl rfl hv (fun w8 hv => ?_)
    refine e_aload_n (pc := 27) (i := 0) dX11_many_27 rfl rfl ?_
    refine e_iconst (pc := 28) (v := 0) dX11_many_28 (by decide) ?_
    have k11 := hv.1
    replace hv := hv.2
    obtain ⟨w12, hw12⟩ : ∃ w12 : Wd, w12 = sI w8 11 41 a0 0 := ⟨_, rfl⟩
    replace hv := hv w12 hw12
    refine e_putI (pc := 29) dX11_many_29 fRX11_163 (Or.inl rfl) rfl k11 ?_
    rw [← hw12]
    refine e_aload_n (pc := 32) (i := 0) dX11_many_32 rfl rfl ?_
    have k13 : wK w12 a0 = 12 := (by rw [hw12]; exact k11)
    refine e_getI (pc := 33) dX11_many_33 fRX11_313 rfl k13 ?_
    exact e_ireturn (pc := 36) dX11_many_36 rfl ⟨_, rfl, hv⟩
  · replace hv := hv.2 h4
    refine e_aload_n (pc := 11) (i := 0) dX11_many_11 rfl rfl ?_
    refine e_iload_n (pc := 12) (i := 3) dX11_many_12 rfl rfl ?_
    have k16 := hv.1
    replace hv := hv.2
    refine e_callVi (pc := 13) (ci := 11) (st := []) (rc' := 0) (rs' := 0) (B' := bX11_refuse) [vI x2] dX11_many_13 vRX11_231 kX11_refuse (by decide) rfl k16 rfl rfl (Nat.le_of_ble_eq_true rfl) ⟨Nat.le_of_ble_eq_true rfl, Nat.le_of_ble_eq_true rfl⟩ rfl rfl hv (fun x15 w14 hv => ?_)
    exact e_ireturn (pc := 16) dX11_many_16 rfl ⟨_, rfl, hv⟩
set_option maxRecDepth 100000 in
set_option maxHeartbeats 4000000 in
theorem oX11_list (X : Cx) (A : Int32 → Wd → Prop) (a0 : Nat) (a1 : Int32) (a2 : Int32) (a3 : Int32) (w : Wd)
    (hv : wK w a0 = 12 ∧ Ct X bX11_wrong mX11_wrong [vR a0, vI a1, vI a2] w (qI fun x2 w1 => ((x2 ≤ 0) → wK w1 a0 = 12 ∧ Ct X bX11_now mX11_now [vR a0] w1 (qV fun w5 => wK w5 a0 = 12 ∧ Ct X bX11_orderOn mX11_orderOn [vR a0, vI a1, vI a2] w5 (qV fun w8 => ((a3 < 0) → wK w8 a0 = 12 ∧ Ct X bX11_refuse mX11_refuse [vR a0, vI 5] w8 (qI fun x13 w12 => A x13 w12)) ∧ ((¬ a3 < 0) → wK w8 a0 = 12 ∧ ((a3 < (wI w8 11 58 a0)) → ∀ w17 : Wd, w17 = sI w8 11 41 a0 0 → wK w17 (wR w17 11 55 a0) = 13 ∧ vp_in a3 (wL w17 (wR w17 11 55 a0)) ∧ A (xI w17 (wR w17 11 55 a0) a3.toNatClampNeg) w17) ∧ ((¬ a3 < (wI w8 11 58 a0)) → Ct X bX11_refuse mX11_refuse [vR a0, vI 5] w8 (qI fun x22 w21 => A x22 w21)))))) ∧ ((¬ x2 ≤ 0) → wK w1 a0 = 12 ∧ Ct X bX11_refuse mX11_refuse [vR a0, vI x2] w1 (qI fun x24 w23 => A x24 w23)))) :
    Ct X bX11_list mX11_list [vR a0, vI a1, vI a2, vI a3] w (qI A) := by
  refine Ct.of (lv := [(0, vR a0), (1, vI a1), (2, vI a2), (3, vI a3)]) rfl (Nat.le_of_ble_eq_true rfl) rfl ?_
  refine e_aload_n (pc := 0) (i := 0) dX11_list_0 rfl rfl ?_
  refine e_iload_n (pc := 1) (i := 1) dX11_list_1 rfl rfl ?_
  refine e_iload_n (pc := 2) (i := 2) dX11_list_2 rfl rfl ?_
  have k3 := hv.1
  replace hv := hv.2
  refine e_callVi (pc := 3) (ci := 11) (st := []) (rc' := 0) (rs' := 0) (B' := bX11_wrong) [vI a1, vI a2] dX11_list_3 vRX11_235 kX11_wrong (by decide) rfl k3 rfl rfl (Nat.le_of_ble_eq_true rfl) ⟨Nat.le_of_ble_eq_true rfl, Nat.le_of_ble_eq_true rfl⟩ rfl rfl hv (fun x2 w1 hv => ?_)
  refine e_istore (pc := 6) (i := 4) (lv' := [(0, vR a0), (1, vI a1), (2, vI a2), (3, vI a3), (4, vI x2)]) dX11_list_6 (by decide) rfl ?_
  refine e_iload (pc := 8) (i := 4) dX11_list_8 rfl ?_
  refine e_if_le (pc := 10) (tgt := 20) dX11_list_10 (by decide) (fun h4 => ?_) (fun h4 => ?_)
  · replace hv := hv.1 h4
    refine e_aload_n (pc := 20) (i := 0) dX11_list_20 rfl rfl ?_
    have k7 := hv.1
    replace hv := hv.2
    refine e_callVv (pc := 21) (ci := 11) (st := []) (rc' := 0) (rs' := 0) (B' := bX11_now) [] dX11_list_21 vRX11_257 kX11_now (by decide) rfl k7 rfl rfl (Nat.le_of_ble_eq_true rfl) ⟨Nat.le_of_ble_eq_true rfl, Nat.le_of_ble_eq_true rfl⟩ rfl rfl hv (fun w5 hv => ?_)
    refine e_aload_n (pc := 24) (i := 0) dX11_list_24 rfl rfl ?_
    refine e_iload_n (pc := 25) (i := 1) dX11_list_25 rfl rfl ?_
    refine e_iload_n (pc := 26) (i := 2) dX11_list_26 rfl rfl ?_
    have k10 := hv.1
    replace hv := hv.2
    refine e_callVv (pc := 27) (ci := 11) (st := []) (rc' := 0) (rs' := 0) (B' := bX11_orderOn) [vI a1, vI a2] dX11_list_27 vRX11_325 kX11_orderOn (by decide) rfl k10 rfl rfl (Nat.le_of_ble_eq_true rfl) ⟨Nat.le_of_ble_eq_true rfl, Nat.le_of_ble_eq_true rfl⟩ rfl rfl hv (fun w8 hv => ?_)
    refine e_iload_n (pc := 30) (i := 3) dX11_list_30 rfl rfl ?_
    refine e_if_lt (pc := 31) (tgt := 42) dX11_list_31 (by decide) (fun h11 => ?_) (fun h11 => ?_)
    · replace hv := hv.1 h11
      refine e_aload_n (pc := 42) (i := 0) dX11_list_42 rfl rfl ?_
      refine e_iconst (pc := 43) (v := 5) dX11_list_43 (by decide) ?_
      have k14 := hv.1
      replace hv := hv.2
      refine e_callVi (pc := 44) (ci := 11) (st := []) (rc' := 0) (rs' := 0) (B' := bX11_refuse) [vI 5] dX11_list_44 vRX11_231 kX11_refuse (by decide) rfl k14 rfl rfl (Nat.le_of_ble_eq_true rfl) ⟨Nat.le_of_ble_eq_true rfl, Nat.le_of_ble_eq_true rfl⟩ rfl rfl hv (fun x13 w12 hv => ?_)
      exact e_ireturn (pc := 47) dX11_list_47 rfl ⟨_, rfl, hv⟩
    · replace hv := hv.2 h11
      refine e_iload_n (pc := 34) (i := 3) dX11_list_34 rfl rfl ?_
      refine e_aload_n (pc := 35) (i := 0) dX11_list_35 rfl rfl ?_
      have k15 := hv.1
      replace hv := hv.2
      refine e_getI (pc := 36) dX11_list_36 fRX11_313 rfl k15 ?_
      refine e_icmp_lt (pc := 39) (tgt := 48) dX11_list_39 (by decide) (fun h16 => ?_) (fun h16 => ?_)
      · replace hv := hv.1 h16
        refine e_aload_n (pc := 48) (i := 0) dX11_list_48 rfl rfl ?_
        refine e_iconst (pc := 49) (v := 0) dX11_list_49 (by decide) ?_
        obtain ⟨w17, hw17⟩ : ∃ w17 : Wd, w17 = sI w8 11 41 a0 0 := ⟨_, rfl⟩
        replace hv := hv w17 hw17
        refine e_putI (pc := 50) dX11_list_50 fRX11_163 (Or.inl rfl) rfl k15 ?_
        rw [← hw17]
        refine e_aload_n (pc := 53) (i := 0) dX11_list_53 rfl rfl ?_
        have k18 : wK w17 a0 = 12 := (by rw [hw17]; exact k15)
        refine e_getR (pc := 54) dX11_list_54 fRX11_142 rfl k18 ?_
        refine e_iload_n (pc := 57) (i := 3) dX11_list_57 rfl rfl ?_
        have k19 := hv.1
        replace hv := hv.2
        have hi20 := hv.1
        replace hv := hv.2
        refine e_iald (pc := 58) dX11_list_58 k19 hi20 ?_
        exact e_ireturn (pc := 59) dX11_list_59 rfl ⟨_, rfl, hv⟩
      · replace hv := hv.2 h16
        refine e_aload_n (pc := 42) (i := 0) dX11_list_42 rfl rfl ?_
        refine e_iconst (pc := 43) (v := 5) dX11_list_43 (by decide) ?_
        refine e_callVi (pc := 44) (ci := 11) (st := []) (rc' := 0) (rs' := 0) (B' := bX11_refuse) [vI 5] dX11_list_44 vRX11_231 kX11_refuse (by decide) rfl k15 rfl rfl (Nat.le_of_ble_eq_true rfl) ⟨Nat.le_of_ble_eq_true rfl, Nat.le_of_ble_eq_true rfl⟩ rfl rfl hv (fun x22 w21 hv => ?_)
        exact e_ireturn (pc := 47) dX11_list_47 rfl ⟨_, rfl, hv⟩
  · replace hv := hv.2 h4
    refine e_aload_n (pc := 13) (i := 0) dX11_list_13 rfl rfl ?_
    refine e_iload (pc := 14) (i := 4) dX11_list_14 rfl ?_
    have k25 := hv.1
    replace hv := hv.2
    refine e_callVi (pc := 16) (ci := 11) (st := []) (rc' := 0) (rs' := 0) (B' := bX11_refuse) [vI x2] dX11_list_16 vRX11_231 kX11_refuse (by decide) rfl k25 rfl rfl (Nat.le_of_ble_eq_true rfl) ⟨Nat.le_of_ble_eq_true rfl, Nat.le_of_ble_eq_true rfl⟩ rfl rfl hv (fun x24 w23 hv => ?_)
    exact e_ireturn (pc := 19) dX11_list_19 rfl ⟨_, rfl, hv⟩
set_option maxRecDepth 100000 in
set_option maxHeartbeats 4000000 in
theorem oX11_isRanked (X : Cx) (A : Int32 → Wd → Prop) (a0 : Nat) (a1 : Int32) (a2 : Int32) (w : Wd)
    (hv : wK w a0 = 12 ∧ Ct X bX11_isEntry mX11_isEntry [vR a0, vI a1] w (qI fun x2 w1 => ((¬ x2 = 0) → wK w1 a0 = 12 ∧ wK w1 (wR w1 11 4 a0) = 13 ∧ vp_in a1 (wL w1 (wR w1 11 4 a0)) ∧ Ct X bX11_wrong mX11_wrong [vR a0, vI (xI w1 (wR w1 11 4 a0) a1.toNatClampNeg), vI a2] w1 (qI fun x9 w8 => ((x9 ≤ 0) → wK w8 a0 = 12 ∧ Ct X bX11_now mX11_now [vR a0] w8 (qV fun w11 => wK w11 a0 = 12 ∧ wK w11 (wR w11 11 3 a0) = 13 ∧ vp_in a1 (wL w11 (wR w11 11 3 a0)) ∧ (((xI w11 (wR w11 11 3 a0) a1.toNatClampNeg) = 6) → Ct X bX11_no mX11_no [vR a0, vI 6] w11 (qI fun x19 w18 => (x19 = 0 ∨ x19 = 1) ∧ A x19 w18)) ∧ ((¬ (xI w11 (wR w11 11 3 a0) a1.toNatClampNeg) = 6) → Ct X bX11_lies mX11_lies [vR a0, vI a1, vI a2] w11 (qI fun x21 w20 => ((¬ x21 = 0) → wK w20 a0 = 12 ∧ wK w20 (wR w20 11 4 a0) = 13 ∧ vp_in a1 (wL w20 (wR w20 11 4 a0)) ∧ Ct X bX11_orderOn mX11_orderOn [vR a0, vI (xI w20 (wR w20 11 4 a0) a1.toNatClampNeg), vI a2] w20 (qV fun w26 => wK w26 a0 = 12 ∧ ∀ w29 : Wd, w29 = sI w26 11 41 a0 0 → A 1 w29)) ∧ ((x21 = 0) → wK w20 a0 = 12 ∧ Ct X bX11_no mX11_no [vR a0, vI 6] w20 (qI fun x31 w30 => (x31 = 0 ∨ x31 = 1) ∧ A x31 w30)))))) ∧ ((¬ x9 ≤ 0) → wK w8 a0 = 12 ∧ Ct X bX11_no mX11_no [vR a0, vI x9] w8 (qI fun x34 w33 => (x34 = 0 ∨ x34 = 1) ∧ A x34 w33)))) ∧ ((x2 = 0) → wK w1 a0 = 12 ∧ Ct X bX11_no mX11_no [vR a0, vI 1] w1 (qI fun x37 w36 => (x37 = 0 ∨ x37 = 1) ∧ A x37 w36)))) :
    Ct X bX11_isRanked mX11_isRanked [vR a0, vI a1, vI a2] w (qI A) := by
  refine Ct.of (lv := [(0, vR a0), (1, vI a1), (2, vI a2)]) rfl (Nat.le_of_ble_eq_true rfl) rfl ?_
  refine e_aload_n (pc := 0) (i := 0) dX11_isRanked_0 rfl rfl ?_
  refine e_iload_n (pc := 1) (i := 1) dX11_isRanked_1 rfl rfl ?_
  have k3 := hv.1
  replace hv := hv.2
  refine e_callVi (pc := 2) (ci := 11) (st := []) (rc' := 0) (rs' := 0) (B' := bX11_isEntry) [vI a1] dX11_isRanked_2 vRX11_224 kX11_isEntry (by decide) rfl k3 rfl rfl (Nat.le_of_ble_eq_true rfl) ⟨Nat.le_of_ble_eq_true rfl, Nat.le_of_ble_eq_true rfl⟩ rfl rfl hv (fun x2 w1 hv => ?_)
  refine e_if_ne (pc := 5) (tgt := 14) dX11_isRanked_5 (by decide) (fun h4 => ?_) (fun h4 => ?_)
  · replace hv := hv.1 h4
    refine e_aload_n (pc := 14) (i := 0) dX11_isRanked_14 rfl rfl ?_
    refine e_aload_n (pc := 15) (i := 0) dX11_isRanked_15 rfl rfl ?_
    have k5 := hv.1
    replace hv := hv.2
    refine e_getR (pc := 16) dX11_isRanked_16 fRX11_20 rfl k5 ?_
    refine e_iload_n (pc := 19) (i := 1) dX11_isRanked_19 rfl rfl ?_
    have k6 := hv.1
    replace hv := hv.2
    have hi7 := hv.1
    replace hv := hv.2
    refine e_iald (pc := 20) dX11_isRanked_20 k6 hi7 ?_
    refine e_iload_n (pc := 21) (i := 2) dX11_isRanked_21 rfl rfl ?_
    refine e_callVi (pc := 22) (ci := 11) (st := []) (rc' := 0) (rs' := 0) (B' := bX11_wrong) [vI (xI w1 (wR w1 11 4 a0) a1.toNatClampNeg), vI a2] dX11_isRanked_22 vRX11_235 kX11_wrong (by decide) rfl k5 rfl rfl (Nat.le_of_ble_eq_true rfl) ⟨Nat.le_of_ble_eq_true rfl, Nat.le_of_ble_eq_true rfl⟩ rfl rfl hv (fun x9 w8 hv => ?_)
    refine e_istore_n (pc := 25) (i := 3) (lv' := [(0, vR a0), (1, vI a1), (2, vI a2), (3, vI x9)]) dX11_isRanked_25 rfl (by decide) rfl ?_
    refine e_iload_n (pc := 26) (i := 3) dX11_isRanked_26 rfl rfl ?_
    refine e_if_le (pc := 27) (tgt := 36) dX11_isRanked_27 (by decide) (fun h10 => ?_) (fun h10 => ?_)
    · replace hv := hv.1 h10
      refine e_aload_n (pc := 36) (i := 0) dX11_isRanked_36 rfl rfl ?_
      have k13 := hv.1
      replace hv := hv.2
      refine e_callVv (pc := 37) (ci := 11) (st := []) (rc' := 0) (rs' := 0) (B' := bX11_now) [] dX11_isRanked_37 vRX11_257 kX11_now (by decide) rfl k13 rfl rfl (Nat.le_of_ble_eq_true rfl) ⟨Nat.le_of_ble_eq_true rfl, Nat.le_of_ble_eq_true rfl⟩ rfl rfl hv (fun w11 hv => ?_)
      refine e_aload_n (pc := 40) (i := 0) dX11_isRanked_40 rfl rfl ?_
      have k14 := hv.1
      replace hv := hv.2
      refine e_getR (pc := 41) dX11_isRanked_41 fRX11_17 rfl k14 ?_
      refine e_iload_n (pc := 44) (i := 1) dX11_isRanked_44 rfl rfl ?_
      have k15 := hv.1
      replace hv := hv.2
      have hi16 := hv.1
      replace hv := hv.2
      refine e_iald (pc := 45) dX11_isRanked_45 k15 hi16 ?_
      refine e_bipush (pc := 46) (v := 6) dX11_isRanked_46 (by decide) ?_
      refine e_icmp_eq (pc := 48) (tgt := 60) dX11_isRanked_48 (by decide) (fun h17 => ?_) (fun h17 => ?_)
      · replace hv := hv.1 h17
        refine e_aload_n (pc := 60) (i := 0) dX11_isRanked_60 rfl rfl ?_
        refine e_bipush (pc := 61) (v := 6) dX11_isRanked_61 (by decide) ?_
        refine e_callVi (pc := 63) (ci := 11) (st := []) (rc' := 0) (rs' := 0) (B' := bX11_no) [vI 6] dX11_isRanked_63 vRX11_238 kX11_no (by decide) rfl k14 rfl rfl (Nat.le_of_ble_eq_true rfl) ⟨Nat.le_of_ble_eq_true rfl, Nat.le_of_ble_eq_true rfl⟩ rfl rfl hv (fun x19 w18 hv => ?_)
        exact e_zreturn (pc := 66) dX11_isRanked_66 rfl hv.1 ⟨_, rfl, hv.2⟩
      · replace hv := hv.2 h17
        refine e_aload_n (pc := 51) (i := 0) dX11_isRanked_51 rfl rfl ?_
        refine e_iload_n (pc := 52) (i := 1) dX11_isRanked_52 rfl rfl ?_
        refine e_iload_n (pc := 53) (i := 2) dX11_isRanked_53 rfl rfl ?_
        refine e_callVi (pc := 54) (ci := 11) (st := []) (rc' := 0) (rs' := 0) (B' := bX11_lies) [vI a1, vI a2] dX11_isRanked_54 vRX11_293 kX11_lies (by decide) rfl k14 rfl rfl (Nat.le_of_ble_eq_true rfl) ⟨Nat.le_of_ble_eq_true rfl, Nat.le_of_ble_eq_true rfl⟩ rfl rfl hv (fun x21 w20 hv => ?_)
        refine e_if_ne (pc := 57) (tgt := 67) dX11_isRanked_57 (by decide) (fun h22 => ?_) (fun h22 => ?_)
        · replace hv := hv.1 h22
          refine e_aload_n (pc := 67) (i := 0) dX11_isRanked_67 rfl rfl ?_
          refine e_aload_n (pc := 68) (i := 0) dX11_isRanked_68 rfl rfl ?_
          have k23 := hv.1
          replace hv := hv.2
          refine e_getR (pc := 69) dX11_isRanked_69 fRX11_20 rfl k23 ?_
          refine e_iload_n (pc := 72) (i := 1) dX11_isRanked_72 rfl rfl ?_
          have k24 := hv.1
          replace hv := hv.2
          have hi25 := hv.1
          replace hv := hv.2
          refine e_iald (pc := 73) dX11_isRanked_73 k24 hi25 ?_
          refine e_iload_n (pc := 74) (i := 2) dX11_isRanked_74 rfl rfl ?_
          refine e_callVv (pc := 75) (ci := 11) (st := []) (rc' := 0) (rs' := 0) (B' := bX11_orderOn) [vI (xI w20 (wR w20 11 4 a0) a1.toNatClampNeg), vI a2] dX11_isRanked_75 vRX11_325 kX11_orderOn (by decide) rfl k23 rfl rfl (Nat.le_of_ble_eq_true rfl) ⟨Nat.le_of_ble_eq_true rfl, Nat.le_of_ble_eq_true rfl⟩ rfl rfl hv (fun w26 hv => ?_)
          refine e_aload_n (pc := 78) (i := 0) dX11_isRanked_78 rfl rfl ?_
          refine e_iconst (pc := 79) (v := 0) dX11_isRanked_79 (by decide) ?_
          have k28 := hv.1
          replace hv := hv.2
          obtain ⟨w29, hw29⟩ : ∃ w29 : Wd, w29 = sI w26 11 41 a0 0 := ⟨_, rfl⟩
          replace hv := hv w29 hw29
          refine e_putI (pc := 80) dX11_isRanked_80 fRX11_163 (Or.inl rfl) rfl k28 ?_
          rw [← hw29]
          refine e_iconst (pc := 83) (v := 1) dX11_isRanked_83 (by decide) ?_
          exact e_zreturn (pc := 84) dX11_isRanked_84 rfl (Or.inr rfl) ⟨_, rfl, hv⟩
        · replace hv := hv.2 h22
          refine e_aload_n (pc := 60) (i := 0) dX11_isRanked_60 rfl rfl ?_
          refine e_bipush (pc := 61) (v := 6) dX11_isRanked_61 (by decide) ?_
          have k32 := hv.1
          replace hv := hv.2
          refine e_callVi (pc := 63) (ci := 11) (st := []) (rc' := 0) (rs' := 0) (B' := bX11_no) [vI 6] dX11_isRanked_63 vRX11_238 kX11_no (by decide) rfl k32 rfl rfl (Nat.le_of_ble_eq_true rfl) ⟨Nat.le_of_ble_eq_true rfl, Nat.le_of_ble_eq_true rfl⟩ rfl rfl hv (fun x31 w30 hv => ?_)
          exact e_zreturn (pc := 66) dX11_isRanked_66 rfl hv.1 ⟨_, rfl, hv.2⟩
    · replace hv := hv.2 h10
      refine e_aload_n (pc := 30) (i := 0) dX11_isRanked_30 rfl rfl ?_
      refine e_iload_n (pc := 31) (i := 3) dX11_isRanked_31 rfl rfl ?_
      have k35 := hv.1
      replace hv := hv.2
      refine e_callVi (pc := 32) (ci := 11) (st := []) (rc' := 0) (rs' := 0) (B' := bX11_no) [vI x9] dX11_isRanked_32 vRX11_238 kX11_no (by decide) rfl k35 rfl rfl (Nat.le_of_ble_eq_true rfl) ⟨Nat.le_of_ble_eq_true rfl, Nat.le_of_ble_eq_true rfl⟩ rfl rfl hv (fun x34 w33 hv => ?_)
      exact e_zreturn (pc := 35) dX11_isRanked_35 rfl hv.1 ⟨_, rfl, hv.2⟩
  · replace hv := hv.2 h4
    refine e_aload_n (pc := 8) (i := 0) dX11_isRanked_8 rfl rfl ?_
    refine e_iconst (pc := 9) (v := 1) dX11_isRanked_9 (by decide) ?_
    have k38 := hv.1
    replace hv := hv.2
    refine e_callVi (pc := 10) (ci := 11) (st := []) (rc' := 0) (rs' := 0) (B' := bX11_no) [vI 1] dX11_isRanked_10 vRX11_238 kX11_no (by decide) rfl k38 rfl rfl (Nat.le_of_ble_eq_true rfl) ⟨Nat.le_of_ble_eq_true rfl, Nat.le_of_ble_eq_true rfl⟩ rfl rfl hv (fun x37 w36 hv => ?_)
    exact e_zreturn (pc := 13) dX11_isRanked_13 rfl hv.1 ⟨_, rfl, hv.2⟩
set_option maxRecDepth 100000 in
set_option maxHeartbeats 4000000 in
theorem oX11_rank (X : Cx) (A : Int32 → Wd → Prop) (a0 : Nat) (a1 : Int32) (a2 : Int32) (w : Wd)
    (hv : wK w a0 = 12 ∧ Ct X bX11_isRanked mX11_isRanked [vR a0, vI a1, vI a2] w (qI fun x2 w1 => ((x2 = 0) → A (-1) w1) ∧ ((¬ x2 = 0) → wK w1 a0 = 12 ∧ wK w1 (wR w1 11 5 a0) = 13 ∧ vp_in a1 (wL w1 (wR w1 11 5 a0)) ∧ Ct X bX11_standsAt mX11_standsAt [vR a0, vI (xI w1 (wR w1 11 5 a0) a1.toNatClampNeg)] w1 (qI fun x9 w8 => A x9 w8)))) :
    Ct X bX11_rank mX11_rank [vR a0, vI a1, vI a2] w (qI A) := by
  refine Ct.of (lv := [(0, vR a0), (1, vI a1), (2, vI a2)]) rfl (Nat.le_of_ble_eq_true rfl) rfl ?_
  refine e_aload_n (pc := 0) (i := 0) dX11_rank_0 rfl rfl ?_
  refine e_iload_n (pc := 1) (i := 1) dX11_rank_1 rfl rfl ?_
  refine e_iload_n (pc := 2) (i := 2) dX11_rank_2 rfl rfl ?_
  have k3 := hv.1
  replace hv := hv.2
  refine e_callVi (pc := 3) (ci := 11) (st := []) (rc' := 0) (rs' := 0) (B' := bX11_isRanked) [vI a1, vI a2] dX11_rank_3 vRX11_328 kX11_isRanked (by decide) rfl k3 rfl rfl (Nat.le_of_ble_eq_true rfl) ⟨Nat.le_of_ble_eq_true rfl, Nat.le_of_ble_eq_true rfl⟩ rfl rfl hv (fun x2 w1 hv => ?_)
  refine e_if_eq (pc := 6) (tgt := 22) dX11_rank_6 (by decide) (fun h4 => ?_) (fun h4 => ?_)
  · replace hv := hv.1 h4
    refine e_iconst (pc := 22) (v := (-1)) dX11_rank_22 (by decide) ?_
    exact e_ireturn (pc := 23) dX11_rank_23 rfl ⟨_, rfl, hv⟩
  · replace hv := hv.2 h4
    refine e_aload_n (pc := 9) (i := 0) dX11_rank_9 rfl rfl ?_
    refine e_aload_n (pc := 10) (i := 0) dX11_rank_10 rfl rfl ?_
    have k5 := hv.1
    replace hv := hv.2
    refine e_getR (pc := 11) dX11_rank_11 fRX11_23 rfl k5 ?_
    refine e_iload_n (pc := 14) (i := 1) dX11_rank_14 rfl rfl ?_
    have k6 := hv.1
    replace hv := hv.2
    have hi7 := hv.1
    replace hv := hv.2
    refine e_iald (pc := 15) dX11_rank_15 k6 hi7 ?_
    refine e_callVi (pc := 16) (ci := 11) (st := []) (rc' := 0) (rs' := 0) (B' := bX11_standsAt) [vI (xI w1 (wR w1 11 5 a0) a1.toNatClampNeg)] dX11_rank_16 vRX11_319 kX11_standsAt (by decide) rfl k5 rfl rfl (Nat.le_of_ble_eq_true rfl) ⟨Nat.le_of_ble_eq_true rfl, Nat.le_of_ble_eq_true rfl⟩ rfl rfl hv (fun x9 w8 hv => ?_)
    refine e_goto (pc := 19) (tgt := 23) dX11_rank_19 (by decide) ?_
    exact e_ireturn (pc := 23) dX11_rank_23 rfl ⟨_, rfl, hv⟩
set_option maxRecDepth 100000 in
set_option maxHeartbeats 4000000 in
theorem oX11_why (X : Cx) (A : Int32 → Wd → Prop) (a0 : Nat) (a1 : Int32) (a2 : Int32) (w : Wd)
    (hv : wK w a0 = 12 ∧ Ct X bX11_isRanked mX11_isRanked [vR a0, vI a1, vI a2] w (qI fun x2 w1 => ((x2 = 0) → A (-1) w1) ∧ ((¬ x2 = 0) → wK w1 a0 = 12 ∧ wK w1 (wR w1 11 5 a0) = 13 ∧ vp_in a1 (wL w1 (wR w1 11 5 a0)) ∧ wK w1 (wR w1 11 56 a0) = 13 ∧ vp_in (xI w1 (wR w1 11 5 a0) a1.toNatClampNeg) (wL w1 (wR w1 11 56 a0)) ∧ A (xI w1 (wR w1 11 56 a0) (xI w1 (wR w1 11 5 a0) a1.toNatClampNeg).toNatClampNeg) w1))) :
    Ct X bX11_why mX11_why [vR a0, vI a1, vI a2] w (qI A) := by
  refine Ct.of (lv := [(0, vR a0), (1, vI a1), (2, vI a2)]) rfl (Nat.le_of_ble_eq_true rfl) rfl ?_
  refine e_aload_n (pc := 0) (i := 0) dX11_why_0 rfl rfl ?_
  refine e_iload_n (pc := 1) (i := 1) dX11_why_1 rfl rfl ?_
  refine e_iload_n (pc := 2) (i := 2) dX11_why_2 rfl rfl ?_
  have k3 := hv.1
  replace hv := hv.2
  refine e_callVi (pc := 3) (ci := 11) (st := []) (rc' := 0) (rs' := 0) (B' := bX11_isRanked) [vI a1, vI a2] dX11_why_3 vRX11_328 kX11_isRanked (by decide) rfl k3 rfl rfl (Nat.le_of_ble_eq_true rfl) ⟨Nat.le_of_ble_eq_true rfl, Nat.le_of_ble_eq_true rfl⟩ rfl rfl hv (fun x2 w1 hv => ?_)
  refine e_if_eq (pc := 6) (tgt := 23) dX11_why_6 (by decide) (fun h4 => ?_) (fun h4 => ?_)
  · replace hv := hv.1 h4
    refine e_iconst (pc := 23) (v := (-1)) dX11_why_23 (by decide) ?_
    exact e_ireturn (pc := 24) dX11_why_24 rfl ⟨_, rfl, hv⟩
  · replace hv := hv.2 h4
    refine e_aload_n (pc := 9) (i := 0) dX11_why_9 rfl rfl ?_
    have k5 := hv.1
    replace hv := hv.2
    refine e_getR (pc := 10) dX11_why_10 fRX11_145 rfl k5 ?_
    refine e_aload_n (pc := 13) (i := 0) dX11_why_13 rfl rfl ?_
    refine e_getR (pc := 14) dX11_why_14 fRX11_23 rfl k5 ?_
    refine e_iload_n (pc := 17) (i := 1) dX11_why_17 rfl rfl ?_
    have k6 := hv.1
    replace hv := hv.2
    have hi7 := hv.1
    replace hv := hv.2
    refine e_iald (pc := 18) dX11_why_18 k6 hi7 ?_
    have k8 := hv.1
    replace hv := hv.2
    have hi9 := hv.1
    replace hv := hv.2
    refine e_iald (pc := 19) dX11_why_19 k8 hi9 ?_
    refine e_goto (pc := 20) (tgt := 24) dX11_why_20 (by decide) ?_
    exact e_ireturn (pc := 24) dX11_why_24 rfl ⟨_, rfl, hv⟩
set_option maxRecDepth 100000 in
set_option maxHeartbeats 4000000 in
theorem oX11_as (X : Cx) (A : Int32 → Wd → Prop) (a0 : Nat) (a1 : Int32) (a2 : Int32) (a3 : Int32) (a4 : Int32) (w : Wd)
    (hv : wK w a0 = 12 ∧ Ct X bX11_wrong mX11_wrong [vR a0, vI (wI w 11 42 a0), vI a1] w (qI fun x3 w2 => ((x3 ≤ 0) → ((a2 < 0) → wK w2 a0 = 12 ∧ Ct X bX11_refuse mX11_refuse [vR a0, vI 5] w2 (qI fun x7 w6 => A x7 w6)) ∧ ((¬ a2 < 0) → wK w2 a0 = 12 ∧ (((wI w2 11 39 a0) < a2) → Ct X bX11_refuse mX11_refuse [vR a0, vI 5] w2 (qI fun x12 w11 => A x12 w11)) ∧ ((¬ (wI w2 11 39 a0) < a2) → ((a3 < 0) → Ct X bX11_refuse mX11_refuse [vR a0, vI 5] w2 (qI fun x15 w14 => A x15 w14)) ∧ ((¬ a3 < 0) → ((a3 ≤ (wI w2 11 39 a0)) → Ct X bX11_view mX11_view [vR a0, vI a2, vI a3] w2 (qV fun w17 => wK w17 a0 = 12 ∧ Ct X bX11_orderOn mX11_orderOn [vR a0, vI (wI w17 11 42 a0), vI a1] w17 (qV fun w20 => ((a4 < 0) → wK w20 a0 = 12 ∧ Ct X bX11_refuse mX11_refuse [vR a0, vI 5] w20 (qI fun x24 w23 => A x24 w23)) ∧ ((¬ a4 < 0) → wK w20 a0 = 12 ∧ ((a4 < (wI w20 11 58 a0)) → ∀ w28 : Wd, w28 = sI w20 11 41 a0 0 → wK w28 (wR w28 11 55 a0) = 13 ∧ vp_in a4 (wL w28 (wR w28 11 55 a0)) ∧ A (xI w28 (wR w28 11 55 a0) a4.toNatClampNeg) w28) ∧ ((¬ a4 < (wI w20 11 58 a0)) → Ct X bX11_refuse mX11_refuse [vR a0, vI 5] w20 (qI fun x33 w32 => A x33 w32)))))) ∧ ((¬ a3 ≤ (wI w2 11 39 a0)) → Ct X bX11_refuse mX11_refuse [vR a0, vI 5] w2 (qI fun x35 w34 => A x35 w34)))))) ∧ ((¬ x3 ≤ 0) → wK w2 a0 = 12 ∧ Ct X bX11_refuse mX11_refuse [vR a0, vI x3] w2 (qI fun x37 w36 => A x37 w36)))) :
    Ct X bX11_as mX11_as [vR a0, vI a1, vI a2, vI a3, vI a4] w (qI A) := by
  refine Ct.of (lv := [(0, vR a0), (1, vI a1), (2, vI a2), (3, vI a3), (4, vI a4)]) rfl (Nat.le_of_ble_eq_true rfl) rfl ?_
  refine e_aload_n (pc := 0) (i := 0) dX11_as_0 rfl rfl ?_
  refine e_aload_n (pc := 1) (i := 0) dX11_as_1 rfl rfl ?_
  have k1 := hv.1
  replace hv := hv.2
  refine e_getI (pc := 2) dX11_as_2 fRX11_331 rfl k1 ?_
  refine e_iload_n (pc := 5) (i := 1) dX11_as_5 rfl rfl ?_
  refine e_callVi (pc := 6) (ci := 11) (st := []) (rc' := 0) (rs' := 0) (B' := bX11_wrong) [vI (wI w 11 42 a0), vI a1] dX11_as_6 vRX11_235 kX11_wrong (by decide) rfl k1 rfl rfl (Nat.le_of_ble_eq_true rfl) ⟨Nat.le_of_ble_eq_true rfl, Nat.le_of_ble_eq_true rfl⟩ rfl rfl hv (fun x3 w2 hv => ?_)
  refine e_istore (pc := 9) (i := 5) (lv' := [(0, vR a0), (1, vI a1), (2, vI a2), (3, vI a3), (4, vI a4), (5, vI x3)]) dX11_as_9 (by decide) rfl ?_
  refine e_iload (pc := 11) (i := 5) dX11_as_11 rfl ?_
  refine e_if_le (pc := 13) (tgt := 23) dX11_as_13 (by decide) (fun h4 => ?_) (fun h4 => ?_)
  · replace hv := hv.1 h4
    refine e_iload_n (pc := 23) (i := 2) dX11_as_23 rfl rfl ?_
    refine e_if_lt (pc := 24) (tgt := 47) dX11_as_24 (by decide) (fun h5 => ?_) (fun h5 => ?_)
    · replace hv := hv.1 h5
      refine e_aload_n (pc := 47) (i := 0) dX11_as_47 rfl rfl ?_
      refine e_iconst (pc := 48) (v := 5) dX11_as_48 (by decide) ?_
      have k8 := hv.1
      replace hv := hv.2
      refine e_callVi (pc := 49) (ci := 11) (st := []) (rc' := 0) (rs' := 0) (B' := bX11_refuse) [vI 5] dX11_as_49 vRX11_231 kX11_refuse (by decide) rfl k8 rfl rfl (Nat.le_of_ble_eq_true rfl) ⟨Nat.le_of_ble_eq_true rfl, Nat.le_of_ble_eq_true rfl⟩ rfl rfl hv (fun x7 w6 hv => ?_)
      exact e_ireturn (pc := 52) dX11_as_52 rfl ⟨_, rfl, hv⟩
    · replace hv := hv.2 h5
      refine e_iload_n (pc := 27) (i := 2) dX11_as_27 rfl rfl ?_
      refine e_aload_n (pc := 28) (i := 0) dX11_as_28 rfl rfl ?_
      have k9 := hv.1
      replace hv := hv.2
      refine e_getI (pc := 29) dX11_as_29 fRX11_166 rfl k9 ?_
      refine e_icmp_gt (pc := 32) (tgt := 47) dX11_as_32 (by decide) (fun h10 => ?_) (fun h10 => ?_)
      · replace hv := hv.1 h10
        refine e_aload_n (pc := 47) (i := 0) dX11_as_47 rfl rfl ?_
        refine e_iconst (pc := 48) (v := 5) dX11_as_48 (by decide) ?_
        refine e_callVi (pc := 49) (ci := 11) (st := []) (rc' := 0) (rs' := 0) (B' := bX11_refuse) [vI 5] dX11_as_49 vRX11_231 kX11_refuse (by decide) rfl k9 rfl rfl (Nat.le_of_ble_eq_true rfl) ⟨Nat.le_of_ble_eq_true rfl, Nat.le_of_ble_eq_true rfl⟩ rfl rfl hv (fun x12 w11 hv => ?_)
        exact e_ireturn (pc := 52) dX11_as_52 rfl ⟨_, rfl, hv⟩
      · replace hv := hv.2 h10
        refine e_iload_n (pc := 35) (i := 3) dX11_as_35 rfl rfl ?_
        refine e_if_lt (pc := 36) (tgt := 47) dX11_as_36 (by decide) (fun h13 => ?_) (fun h13 => ?_)
        · replace hv := hv.1 h13
          refine e_aload_n (pc := 47) (i := 0) dX11_as_47 rfl rfl ?_
          refine e_iconst (pc := 48) (v := 5) dX11_as_48 (by decide) ?_
          refine e_callVi (pc := 49) (ci := 11) (st := []) (rc' := 0) (rs' := 0) (B' := bX11_refuse) [vI 5] dX11_as_49 vRX11_231 kX11_refuse (by decide) rfl k9 rfl rfl (Nat.le_of_ble_eq_true rfl) ⟨Nat.le_of_ble_eq_true rfl, Nat.le_of_ble_eq_true rfl⟩ rfl rfl hv (fun x15 w14 hv => ?_)
          exact e_ireturn (pc := 52) dX11_as_52 rfl ⟨_, rfl, hv⟩
        · replace hv := hv.2 h13
          refine e_iload_n (pc := 39) (i := 3) dX11_as_39 rfl rfl ?_
          refine e_aload_n (pc := 40) (i := 0) dX11_as_40 rfl rfl ?_
          refine e_getI (pc := 41) dX11_as_41 fRX11_166 rfl k9 ?_
          refine e_icmp_le (pc := 44) (tgt := 53) dX11_as_44 (by decide) (fun h16 => ?_) (fun h16 => ?_)
          · replace hv := hv.1 h16
            refine e_aload_n (pc := 53) (i := 0) dX11_as_53 rfl rfl ?_
            refine e_iload_n (pc := 54) (i := 2) dX11_as_54 rfl rfl ?_
            refine e_iload_n (pc := 55) (i := 3) dX11_as_55 rfl rfl ?_
            refine e_callVv (pc := 56) (ci := 11) (st := []) (rc' := 0) (rs' := 0) (B' := bX11_view) [vI a2, vI a3] dX11_as_56 vRX11_181 kX11_view (by decide) rfl k9 rfl rfl (Nat.le_of_ble_eq_true rfl) ⟨Nat.le_of_ble_eq_true rfl, Nat.le_of_ble_eq_true rfl⟩ rfl rfl hv (fun w17 hv => ?_)
            refine e_aload_n (pc := 59) (i := 0) dX11_as_59 rfl rfl ?_
            refine e_aload_n (pc := 60) (i := 0) dX11_as_60 rfl rfl ?_
            have k19 := hv.1
            replace hv := hv.2
            refine e_getI (pc := 61) dX11_as_61 fRX11_331 rfl k19 ?_
            refine e_iload_n (pc := 64) (i := 1) dX11_as_64 rfl rfl ?_
            refine e_callVv (pc := 65) (ci := 11) (st := []) (rc' := 0) (rs' := 0) (B' := bX11_orderOn) [vI (wI w17 11 42 a0), vI a1] dX11_as_65 vRX11_325 kX11_orderOn (by decide) rfl k19 rfl rfl (Nat.le_of_ble_eq_true rfl) ⟨Nat.le_of_ble_eq_true rfl, Nat.le_of_ble_eq_true rfl⟩ rfl rfl hv (fun w20 hv => ?_)
            refine e_iload (pc := 68) (i := 4) dX11_as_68 rfl ?_
            refine e_if_lt (pc := 70) (tgt := 82) dX11_as_70 (by decide) (fun h22 => ?_) (fun h22 => ?_)
            · replace hv := hv.1 h22
              refine e_aload_n (pc := 82) (i := 0) dX11_as_82 rfl rfl ?_
              refine e_iconst (pc := 83) (v := 5) dX11_as_83 (by decide) ?_
              have k25 := hv.1
              replace hv := hv.2
              refine e_callVi (pc := 84) (ci := 11) (st := []) (rc' := 0) (rs' := 0) (B' := bX11_refuse) [vI 5] dX11_as_84 vRX11_231 kX11_refuse (by decide) rfl k25 rfl rfl (Nat.le_of_ble_eq_true rfl) ⟨Nat.le_of_ble_eq_true rfl, Nat.le_of_ble_eq_true rfl⟩ rfl rfl hv (fun x24 w23 hv => ?_)
              exact e_ireturn (pc := 87) dX11_as_87 rfl ⟨_, rfl, hv⟩
            · replace hv := hv.2 h22
              refine e_iload (pc := 73) (i := 4) dX11_as_73 rfl ?_
              refine e_aload_n (pc := 75) (i := 0) dX11_as_75 rfl rfl ?_
              have k26 := hv.1
              replace hv := hv.2
              refine e_getI (pc := 76) dX11_as_76 fRX11_313 rfl k26 ?_
              refine e_icmp_lt (pc := 79) (tgt := 88) dX11_as_79 (by decide) (fun h27 => ?_) (fun h27 => ?_)
              · replace hv := hv.1 h27
                refine e_aload_n (pc := 88) (i := 0) dX11_as_88 rfl rfl ?_
                refine e_iconst (pc := 89) (v := 0) dX11_as_89 (by decide) ?_
                obtain ⟨w28, hw28⟩ : ∃ w28 : Wd, w28 = sI w20 11 41 a0 0 := ⟨_, rfl⟩
                replace hv := hv w28 hw28
                refine e_putI (pc := 90) dX11_as_90 fRX11_163 (Or.inl rfl) rfl k26 ?_
                rw [← hw28]
                refine e_aload_n (pc := 93) (i := 0) dX11_as_93 rfl rfl ?_
                have k29 : wK w28 a0 = 12 := (by rw [hw28]; exact k26)
                refine e_getR (pc := 94) dX11_as_94 fRX11_142 rfl k29 ?_
                refine e_iload (pc := 97) (i := 4) dX11_as_97 rfl ?_
                have k30 := hv.1
                replace hv := hv.2
                have hi31 := hv.1
                replace hv := hv.2
                refine e_iald (pc := 99) dX11_as_99 k30 hi31 ?_
                exact e_ireturn (pc := 100) dX11_as_100 rfl ⟨_, rfl, hv⟩
              · replace hv := hv.2 h27
                refine e_aload_n (pc := 82) (i := 0) dX11_as_82 rfl rfl ?_
                refine e_iconst (pc := 83) (v := 5) dX11_as_83 (by decide) ?_
                refine e_callVi (pc := 84) (ci := 11) (st := []) (rc' := 0) (rs' := 0) (B' := bX11_refuse) [vI 5] dX11_as_84 vRX11_231 kX11_refuse (by decide) rfl k26 rfl rfl (Nat.le_of_ble_eq_true rfl) ⟨Nat.le_of_ble_eq_true rfl, Nat.le_of_ble_eq_true rfl⟩ rfl rfl hv (fun x33 w32 hv => ?_)
                exact e_ireturn (pc := 87) dX11_as_87 rfl ⟨_, rfl, hv⟩
          · replace hv := hv.2 h16
            refine e_aload_n (pc := 47) (i := 0) dX11_as_47 rfl rfl ?_
            refine e_iconst (pc := 48) (v := 5) dX11_as_48 (by decide) ?_
            refine e_callVi (pc := 49) (ci := 11) (st := []) (rc' := 0) (rs' := 0) (B' := bX11_refuse) [vI 5] dX11_as_49 vRX11_231 kX11_refuse (by decide) rfl k9 rfl rfl (Nat.le_of_ble_eq_true rfl) ⟨Nat.le_of_ble_eq_true rfl, Nat.le_of_ble_eq_true rfl⟩ rfl rfl hv (fun x35 w34 hv => ?_)
            exact e_ireturn (pc := 52) dX11_as_52 rfl ⟨_, rfl, hv⟩
  · replace hv := hv.2 h4
    refine e_aload_n (pc := 16) (i := 0) dX11_as_16 rfl rfl ?_
    refine e_iload (pc := 17) (i := 5) dX11_as_17 rfl ?_
    have k38 := hv.1
    replace hv := hv.2
    refine e_callVi (pc := 19) (ci := 11) (st := []) (rc' := 0) (rs' := 0) (B' := bX11_refuse) [vI x3] dX11_as_19 vRX11_231 kX11_refuse (by decide) rfl k38 rfl rfl (Nat.le_of_ble_eq_true rfl) ⟨Nat.le_of_ble_eq_true rfl, Nat.le_of_ble_eq_true rfl⟩ rfl rfl hv (fun x37 w36 hv => ?_)
    exact e_ireturn (pc := 22) dX11_as_22 rfl ⟨_, rfl, hv⟩
set_option maxRecDepth 100000 in
set_option maxHeartbeats 4000000 in
theorem oX11_choose (X : Cx) (A : Int32 → Wd → Prop) (a0 : Nat) (a1 : Int32) (w : Wd)
    (hv : ((a1 < 0) → wK w a0 = 12 ∧ Ct X bX11_no mX11_no [vR a0, vI 1] w (qI fun x3 w2 => (x3 = 0 ∨ x3 = 1) ∧ A x3 w2)) ∧ ((¬ a1 < 0) → wK w a0 = 12 ∧ ((a1 < (wI w 11 2 a0)) → ∀ w7 : Wd, w7 = sI w 11 42 a0 a1 → ∀ w9 : Wd, w9 = sI w7 11 41 a0 0 → A 1 w9) ∧ ((¬ a1 < (wI w 11 2 a0)) → Ct X bX11_no mX11_no [vR a0, vI 1] w (qI fun x11 w10 => (x11 = 0 ∨ x11 = 1) ∧ A x11 w10)))) :
    Ct X bX11_choose mX11_choose [vR a0, vI a1] w (qI A) := by
  refine Ct.of (lv := [(0, vR a0), (1, vI a1)]) rfl (Nat.le_of_ble_eq_true rfl) rfl ?_
  refine e_iload_n (pc := 0) (i := 1) dX11_choose_0 rfl rfl ?_
  refine e_if_lt (pc := 1) (tgt := 12) dX11_choose_1 (by decide) (fun h1 => ?_) (fun h1 => ?_)
  · replace hv := hv.1 h1
    refine e_aload_n (pc := 12) (i := 0) dX11_choose_12 rfl rfl ?_
    refine e_iconst (pc := 13) (v := 1) dX11_choose_13 (by decide) ?_
    have k4 := hv.1
    replace hv := hv.2
    refine e_callVi (pc := 14) (ci := 11) (st := []) (rc' := 0) (rs' := 0) (B' := bX11_no) [vI 1] dX11_choose_14 vRX11_238 kX11_no (by decide) rfl k4 rfl rfl (Nat.le_of_ble_eq_true rfl) ⟨Nat.le_of_ble_eq_true rfl, Nat.le_of_ble_eq_true rfl⟩ rfl rfl hv (fun x3 w2 hv => ?_)
    exact e_zreturn (pc := 17) dX11_choose_17 rfl hv.1 ⟨_, rfl, hv.2⟩
  · replace hv := hv.2 h1
    refine e_iload_n (pc := 4) (i := 1) dX11_choose_4 rfl rfl ?_
    refine e_aload_n (pc := 5) (i := 0) dX11_choose_5 rfl rfl ?_
    have k5 := hv.1
    replace hv := hv.2
    refine e_getI (pc := 6) dX11_choose_6 fRX11_172 rfl k5 ?_
    refine e_icmp_lt (pc := 9) (tgt := 18) dX11_choose_9 (by decide) (fun h6 => ?_) (fun h6 => ?_)
    · replace hv := hv.1 h6
      refine e_aload_n (pc := 18) (i := 0) dX11_choose_18 rfl rfl ?_
      refine e_iload_n (pc := 19) (i := 1) dX11_choose_19 rfl rfl ?_
      obtain ⟨w7, hw7⟩ : ∃ w7 : Wd, w7 = sI w 11 42 a0 a1 := ⟨_, rfl⟩
      replace hv := hv w7 hw7
      refine e_putI (pc := 20) dX11_choose_20 fRX11_331 (Or.inl rfl) rfl k5 ?_
      rw [← hw7]
      refine e_aload_n (pc := 23) (i := 0) dX11_choose_23 rfl rfl ?_
      refine e_iconst (pc := 24) (v := 0) dX11_choose_24 (by decide) ?_
      have k8 : wK w7 a0 = 12 := (by rw [hw7]; exact k5)
      obtain ⟨w9, hw9⟩ : ∃ w9 : Wd, w9 = sI w7 11 41 a0 0 := ⟨_, rfl⟩
      replace hv := hv w9 hw9
      refine e_putI (pc := 25) dX11_choose_25 fRX11_163 (Or.inl rfl) rfl k8 ?_
      rw [← hw9]
      refine e_iconst (pc := 28) (v := 1) dX11_choose_28 (by decide) ?_
      exact e_zreturn (pc := 29) dX11_choose_29 rfl (Or.inr rfl) ⟨_, rfl, hv⟩
    · replace hv := hv.2 h6
      refine e_aload_n (pc := 12) (i := 0) dX11_choose_12 rfl rfl ?_
      refine e_iconst (pc := 13) (v := 1) dX11_choose_13 (by decide) ?_
      refine e_callVi (pc := 14) (ci := 11) (st := []) (rc' := 0) (rs' := 0) (B' := bX11_no) [vI 1] dX11_choose_14 vRX11_238 kX11_no (by decide) rfl k5 rfl rfl (Nat.le_of_ble_eq_true rfl) ⟨Nat.le_of_ble_eq_true rfl, Nat.le_of_ble_eq_true rfl⟩ rfl rfl hv (fun x11 w10 hv => ?_)
      exact e_zreturn (pc := 17) dX11_choose_17 rfl hv.1 ⟨_, rfl, hv.2⟩
abbrev jX11_dueIn_10 (X : Cx) (A : Int64 → Wd → Prop) (l0 : Nat) (l2 : Int64) (l4 : Int32) (w : Wd) : Prop := EJ X mX11_dueIn (vw X bX11_dueIn (qJ A)) 0 0 10 [(0, vR l0), (2, vJ l2), (4, vI l4)] [] w
set_option maxRecDepth 100000 in
set_option maxHeartbeats 4000000 in
theorem tX11_dueIn_10 (X : Cx) (A : Int64 → Wd → Prop) (l0 : Nat) (l2 : Int64) (l4 : Int32) (w : Wd)
    (hv : wK w l0 = 12 ∧ (((wI w 11 48 l0) ≤ l4) → A l2 w) ∧ ((¬ (wI w 11 48 l0) ≤ l4) → wK w (wR w 11 47 l0) = 13 ∧ vp_in l4 (wL w (wR w 11 47 l0)) ∧ wK w (wR w 11 60 l0) = 14 ∧ vp_in (xI w (wR w 11 47 l0) l4.toNatClampNeg) (wL w (wR w 11 60 l0)) ∧ jX11_dueIn_10 X A l0 (l2 + (xJ w (wR w 11 60 l0) (xI w (wR w 11 47 l0) l4.toNatClampNeg).toNatClampNeg)) (l4 + 1) w)) :
    jX11_dueIn_10 X A l0 l2 l4 w := by
  refine e_iload (pc := 10) (i := 4) dX11_dueIn_10 rfl ?_
  refine e_aload_n (pc := 12) (i := 0) dX11_dueIn_12 rfl rfl ?_
  have k1 := hv.1
  replace hv := hv.2
  refine e_getI (pc := 13) dX11_dueIn_13 fRX11_199 rfl k1 ?_
  refine e_icmp_ge (pc := 16) (tgt := 40) dX11_dueIn_16 (by decide) (fun h2 => ?_) (fun h2 => ?_)
  · replace hv := hv.1 h2
    refine e_lload_n (pc := 40) (i := 2) dX11_dueIn_40 rfl rfl ?_
    exact e_lreturn (pc := 41) dX11_dueIn_41 rfl ⟨_, rfl, hv⟩
  · replace hv := hv.2 h2
    refine e_lload_n (pc := 19) (i := 2) dX11_dueIn_19 rfl rfl ?_
    refine e_aload_n (pc := 20) (i := 0) dX11_dueIn_20 rfl rfl ?_
    refine e_getR (pc := 21) dX11_dueIn_21 fRX11_151 rfl k1 ?_
    refine e_aload_n (pc := 24) (i := 0) dX11_dueIn_24 rfl rfl ?_
    refine e_getR (pc := 25) dX11_dueIn_25 fRX11_124 rfl k1 ?_
    refine e_iload (pc := 28) (i := 4) dX11_dueIn_28 rfl ?_
    have k3 := hv.1
    replace hv := hv.2
    have hi4 := hv.1
    replace hv := hv.2
    refine e_iald (pc := 30) dX11_dueIn_30 k3 hi4 ?_
    have k5 := hv.1
    replace hv := hv.2
    have hi6 := hv.1
    replace hv := hv.2
    refine e_lald (pc := 31) dX11_dueIn_31 k5 hi6 ?_
    refine e_ladd (pc := 32) dX11_dueIn_32 ?_
    refine e_lstore_n (pc := 33) (i := 2) (lv' := [(0, vR l0), (2, vJ (l2 + (xJ w (wR w 11 60 l0) (xI w (wR w 11 47 l0) l4.toNatClampNeg).toNatClampNeg))), (4, vI l4)]) dX11_dueIn_33 rfl (by decide) rfl ?_
    refine e_iinc (pc := 34) (v := l4 + 1) (lv' := [(0, vR l0), (2, vJ (l2 + (xJ w (wR w 11 60 l0) (xI w (wR w 11 47 l0) l4.toNatClampNeg).toNatClampNeg))), (4, vI (l4 + 1))]) dX11_dueIn_34 rfl rfl (by decide) rfl ?_
    refine e_goto (pc := 37) (tgt := 10) dX11_dueIn_37 (by decide) ?_
    exact hv
set_option maxRecDepth 100000 in
set_option maxHeartbeats 4000000 in
theorem oX11_dueIn (X : Cx) (A : Int64 → Wd → Prop) (a0 : Nat) (a1 : Int32) (w : Wd)
    (hv : wK w a0 = 12 ∧ Ct X bX11_leavesOf mX11_leavesOf [vR a0, vI a1] w (qV fun w1 => jX11_dueIn_10 X A a0 0 0 w1)) :
    Ct X bX11_dueIn mX11_dueIn [vR a0, vI a1] w (qJ A) := by
  refine Ct.of (lv := [(0, vR a0), (1, vI a1)]) rfl (Nat.le_of_ble_eq_true rfl) rfl ?_
  refine e_aload_n (pc := 0) (i := 0) dX11_dueIn_0 rfl rfl ?_
  refine e_iload_n (pc := 1) (i := 1) dX11_dueIn_1 rfl rfl ?_
  have k3 := hv.1
  replace hv := hv.2
  refine e_callVv (pc := 2) (ci := 11) (st := []) (rc' := 0) (rs' := 0) (B' := bX11_leavesOf) [vI a1] dX11_dueIn_2 vRX11_206 kX11_leavesOf (by decide) rfl k3 rfl rfl (Nat.le_of_ble_eq_true rfl) ⟨Nat.le_of_ble_eq_true rfl, Nat.le_of_ble_eq_true rfl⟩ rfl rfl hv (fun w1 hv => ?_)
  refine e_lconst (pc := 5) (v := 0) dX11_dueIn_5 (by decide) ?_
  refine e_lstore_n (pc := 6) (i := 2) (lv' := [(0, vR a0), (1, vI a1), (2, vJ 0)]) dX11_dueIn_6 rfl (by decide) rfl ?_
  refine e_iconst (pc := 7) (v := 0) dX11_dueIn_7 (by decide) ?_
  refine e_istore (pc := 8) (i := 4) (lv' := [(0, vR a0), (1, vI a1), (2, vJ 0), (4, vI 0)]) dX11_dueIn_8 (by decide) rfl ?_
  exact EJ.drop [0, 2, 4] rfl hv
abbrev jX11_gotBy_10 (X : Cx) (A : Int64 → Wd → Prop) (l0 : Nat) (l2 : Int64) (l4 : Int32) (w : Wd) : Prop := EJ X mX11_gotBy (vw X bX11_gotBy (qJ A)) 0 0 10 [(0, vR l0), (2, vJ l2), (4, vI l4)] [] w
set_option maxRecDepth 100000 in
set_option maxHeartbeats 4000000 in
theorem tX11_gotBy_10 (X : Cx) (A : Int64 → Wd → Prop) (l0 : Nat) (l2 : Int64) (l4 : Int32) (w : Wd)
    (hv : wK w l0 = 12 ∧ (((wI w 11 48 l0) ≤ l4) → A l2 w) ∧ ((¬ (wI w 11 48 l0) ≤ l4) → wK w (wR w 11 47 l0) = 13 ∧ vp_in l4 (wL w (wR w 11 47 l0)) ∧ wK w (wR w 11 59 l0) = 14 ∧ vp_in (xI w (wR w 11 47 l0) l4.toNatClampNeg) (wL w (wR w 11 59 l0)) ∧ jX11_gotBy_10 X A l0 (l2 + (xJ w (wR w 11 59 l0) (xI w (wR w 11 47 l0) l4.toNatClampNeg).toNatClampNeg)) (l4 + 1) w)) :
    jX11_gotBy_10 X A l0 l2 l4 w := by
  refine e_iload (pc := 10) (i := 4) dX11_gotBy_10 rfl ?_
  refine e_aload_n (pc := 12) (i := 0) dX11_gotBy_12 rfl rfl ?_
  have k1 := hv.1
  replace hv := hv.2
  refine e_getI (pc := 13) dX11_gotBy_13 fRX11_199 rfl k1 ?_
  refine e_icmp_ge (pc := 16) (tgt := 40) dX11_gotBy_16 (by decide) (fun h2 => ?_) (fun h2 => ?_)
  · replace hv := hv.1 h2
    refine e_lload_n (pc := 40) (i := 2) dX11_gotBy_40 rfl rfl ?_
    exact e_lreturn (pc := 41) dX11_gotBy_41 rfl ⟨_, rfl, hv⟩
  · replace hv := hv.2 h2
    refine e_lload_n (pc := 19) (i := 2) dX11_gotBy_19 rfl rfl ?_
    refine e_aload_n (pc := 20) (i := 0) dX11_gotBy_20 rfl rfl ?_
    refine e_getR (pc := 21) dX11_gotBy_21 fRX11_148 rfl k1 ?_
    refine e_aload_n (pc := 24) (i := 0) dX11_gotBy_24 rfl rfl ?_
    refine e_getR (pc := 25) dX11_gotBy_25 fRX11_124 rfl k1 ?_
    refine e_iload (pc := 28) (i := 4) dX11_gotBy_28 rfl ?_
    have k3 := hv.1
    replace hv := hv.2
    have hi4 := hv.1
    replace hv := hv.2
    refine e_iald (pc := 30) dX11_gotBy_30 k3 hi4 ?_
    have k5 := hv.1
    replace hv := hv.2
    have hi6 := hv.1
    replace hv := hv.2
    refine e_lald (pc := 31) dX11_gotBy_31 k5 hi6 ?_
    refine e_ladd (pc := 32) dX11_gotBy_32 ?_
    refine e_lstore_n (pc := 33) (i := 2) (lv' := [(0, vR l0), (2, vJ (l2 + (xJ w (wR w 11 59 l0) (xI w (wR w 11 47 l0) l4.toNatClampNeg).toNatClampNeg))), (4, vI l4)]) dX11_gotBy_33 rfl (by decide) rfl ?_
    refine e_iinc (pc := 34) (v := l4 + 1) (lv' := [(0, vR l0), (2, vJ (l2 + (xJ w (wR w 11 59 l0) (xI w (wR w 11 47 l0) l4.toNatClampNeg).toNatClampNeg))), (4, vI (l4 + 1))]) dX11_gotBy_34 rfl rfl (by decide) rfl ?_
    refine e_goto (pc := 37) (tgt := 10) dX11_gotBy_37 (by decide) ?_
    exact hv
set_option maxRecDepth 100000 in
set_option maxHeartbeats 4000000 in
theorem oX11_gotBy (X : Cx) (A : Int64 → Wd → Prop) (a0 : Nat) (a1 : Int32) (w : Wd)
    (hv : wK w a0 = 12 ∧ Ct X bX11_leavesOf mX11_leavesOf [vR a0, vI a1] w (qV fun w1 => jX11_gotBy_10 X A a0 0 0 w1)) :
    Ct X bX11_gotBy mX11_gotBy [vR a0, vI a1] w (qJ A) := by
  refine Ct.of (lv := [(0, vR a0), (1, vI a1)]) rfl (Nat.le_of_ble_eq_true rfl) rfl ?_
  refine e_aload_n (pc := 0) (i := 0) dX11_gotBy_0 rfl rfl ?_
  refine e_iload_n (pc := 1) (i := 1) dX11_gotBy_1 rfl rfl ?_
  have k3 := hv.1
  replace hv := hv.2
  refine e_callVv (pc := 2) (ci := 11) (st := []) (rc' := 0) (rs' := 0) (B' := bX11_leavesOf) [vI a1] dX11_gotBy_2 vRX11_206 kX11_leavesOf (by decide) rfl k3 rfl rfl (Nat.le_of_ble_eq_true rfl) ⟨Nat.le_of_ble_eq_true rfl, Nat.le_of_ble_eq_true rfl⟩ rfl rfl hv (fun w1 hv => ?_)
  refine e_lconst (pc := 5) (v := 0) dX11_gotBy_5 (by decide) ?_
  refine e_lstore_n (pc := 6) (i := 2) (lv' := [(0, vR a0), (1, vI a1), (2, vJ 0)]) dX11_gotBy_6 rfl (by decide) rfl ?_
  refine e_iconst (pc := 7) (v := 0) dX11_gotBy_7 (by decide) ?_
  refine e_istore (pc := 8) (i := 4) (lv' := [(0, vR a0), (1, vI a1), (2, vJ 0), (4, vI 0)]) dX11_gotBy_8 (by decide) rfl ?_
  exact EJ.drop [0, 2, 4] rfl hv
abbrev jX11_gets_11 (X : Cx) (A : Wd → Prop) (l0 : Nat) (l4 : Int64) (l6 : Int32) (w : Wd) : Prop := EJ X mX11_gets (vw X bX11_gets (qV A)) 0 0 11 [(0, vR l0), (4, vJ l4), (6, vI l6)] [] w
set_option maxRecDepth 100000 in
set_option maxHeartbeats 4000000 in
theorem tX11_gets_11 (X : Cx) (A : Wd → Prop) (l0 : Nat) (l4 : Int64) (l6 : Int32) (w : Wd)
    (hv : wK w l0 = 12 ∧ (((wI w 11 48 l0) ≤ l6) → A w) ∧ ((¬ (wI w 11 48 l0) ≤ l6) → wK w (wR w 11 47 l0) = 13 ∧ vp_in l6 (wL w (wR w 11 47 l0)) ∧ wK w (wR w 11 60 l0) = 14 ∧ vp_in (xI w (wR w 11 47 l0) l6.toNatClampNeg) (wL w (wR w 11 60 l0)) ∧ vp_in l6 (wL w (wR w 11 47 l0)) ∧ wK w (wR w 11 59 l0) = 14 ∧ vp_in (xI w (wR w 11 47 l0) l6.toNatClampNeg) (wL w (wR w 11 59 l0)) ∧ vp_in l6 (wL w (wR w 11 47 l0)) ∧ vp_in (xI w (wR w 11 47 l0) l6.toNatClampNeg) (wL w (wR w 11 59 l0)) ∧ vp_in (xI w (wR w 11 47 l0) l6.toNatClampNeg) (wL w (wR w 11 59 l0)) ∧ ∀ w13 : Wd, w13 = yJ w (wR w 11 59 l0) (xI w (wR w 11 47 l0) l6.toNatClampNeg).toNatClampNeg ((xJ w (wR w 11 59 l0) (xI w (wR w 11 47 l0) l6.toNatClampNeg).toNatClampNeg) + (if ((xJ w (wR w 11 60 l0) (xI w (wR w 11 47 l0) l6.toNatClampNeg).toNatClampNeg) - (xJ w (wR w 11 59 l0) (xI w (wR w 11 47 l0) l6.toNatClampNeg).toNatClampNeg)) < l4 then ((xJ w (wR w 11 60 l0) (xI w (wR w 11 47 l0) l6.toNatClampNeg).toNatClampNeg) - (xJ w (wR w 11 59 l0) (xI w (wR w 11 47 l0) l6.toNatClampNeg).toNatClampNeg)) else l4)) → jX11_gets_11 X A l0 (l4 - (if ((xJ w (wR w 11 60 l0) (xI w (wR w 11 47 l0) l6.toNatClampNeg).toNatClampNeg) - (xJ w (wR w 11 59 l0) (xI w (wR w 11 47 l0) l6.toNatClampNeg).toNatClampNeg)) < l4 then ((xJ w (wR w 11 60 l0) (xI w (wR w 11 47 l0) l6.toNatClampNeg).toNatClampNeg) - (xJ w (wR w 11 59 l0) (xI w (wR w 11 47 l0) l6.toNatClampNeg).toNatClampNeg)) else l4)) (l6 + 1) w13)) :
    jX11_gets_11 X A l0 l4 l6 w := by
  refine e_iload (pc := 11) (i := 6) dX11_gets_11 rfl ?_
  refine e_aload_n (pc := 13) (i := 0) dX11_gets_13 rfl rfl ?_
  have k1 := hv.1
  replace hv := hv.2
  refine e_getI (pc := 14) dX11_gets_14 fRX11_199 rfl k1 ?_
  refine e_icmp_ge (pc := 17) (tgt := 82) dX11_gets_17 (by decide) (fun h2 => ?_) (fun h2 => ?_)
  · replace hv := hv.1 h2
    exact e_vreturn (pc := 82) dX11_gets_82 rfl ⟨rfl, hv⟩
  · replace hv := hv.2 h2
    refine e_lload (pc := 20) (i := 4) dX11_gets_20 rfl ?_
    refine e_aload_n (pc := 22) (i := 0) dX11_gets_22 rfl rfl ?_
    refine e_getR (pc := 23) dX11_gets_23 fRX11_151 rfl k1 ?_
    refine e_aload_n (pc := 26) (i := 0) dX11_gets_26 rfl rfl ?_
    refine e_getR (pc := 27) dX11_gets_27 fRX11_124 rfl k1 ?_
    refine e_iload (pc := 30) (i := 6) dX11_gets_30 rfl ?_
    have k3 := hv.1
    replace hv := hv.2
    have hi4 := hv.1
    replace hv := hv.2
    refine e_iald (pc := 32) dX11_gets_32 k3 hi4 ?_
    have k5 := hv.1
    replace hv := hv.2
    have hi6 := hv.1
    replace hv := hv.2
    refine e_lald (pc := 33) dX11_gets_33 k5 hi6 ?_
    refine e_aload_n (pc := 34) (i := 0) dX11_gets_34 rfl rfl ?_
    refine e_getR (pc := 35) dX11_gets_35 fRX11_148 rfl k1 ?_
    refine e_aload_n (pc := 38) (i := 0) dX11_gets_38 rfl rfl ?_
    refine e_getR (pc := 39) dX11_gets_39 fRX11_124 rfl k1 ?_
    refine e_iload (pc := 42) (i := 6) dX11_gets_42 rfl ?_
    have hi7 := hv.1
    replace hv := hv.2
    refine e_iald (pc := 44) dX11_gets_44 k3 hi7 ?_
    have k8 := hv.1
    replace hv := hv.2
    have hi9 := hv.1
    replace hv := hv.2
    refine e_lald (pc := 45) dX11_gets_45 k8 hi9 ?_
    refine e_lsub (pc := 46) dX11_gets_46 ?_
    refine e_mminJ (pc := 47) dX11_gets_47 (tb_a5 138 (by decide +kernel) rfl) (Nat.le_of_ble_eq_true rfl) (Nat.le_of_ble_eq_true rfl) ?_
    refine e_lstore (pc := 50) (i := 7) (lv' := [(0, vR l0), (4, vJ l4), (6, vI l6), (7, vJ (if ((xJ w (wR w 11 60 l0) (xI w (wR w 11 47 l0) l6.toNatClampNeg).toNatClampNeg) - (xJ w (wR w 11 59 l0) (xI w (wR w 11 47 l0) l6.toNatClampNeg).toNatClampNeg)) < l4 then ((xJ w (wR w 11 60 l0) (xI w (wR w 11 47 l0) l6.toNatClampNeg).toNatClampNeg) - (xJ w (wR w 11 59 l0) (xI w (wR w 11 47 l0) l6.toNatClampNeg).toNatClampNeg)) else l4))]) dX11_gets_50 (by decide) rfl ?_
    refine e_aload_n (pc := 52) (i := 0) dX11_gets_52 rfl rfl ?_
    refine e_getR (pc := 53) dX11_gets_53 fRX11_148 rfl k1 ?_
    refine e_aload_n (pc := 56) (i := 0) dX11_gets_56 rfl rfl ?_
    refine e_getR (pc := 57) dX11_gets_57 fRX11_124 rfl k1 ?_
    refine e_iload (pc := 60) (i := 6) dX11_gets_60 rfl ?_
    have hi10 := hv.1
    replace hv := hv.2
    refine e_iald (pc := 62) dX11_gets_62 k3 hi10 ?_
    refine e_dup2_11 (pc := 63) dX11_gets_63 rfl rfl ?_
    have hi11 := hv.1
    replace hv := hv.2
    refine e_lald (pc := 64) dX11_gets_64 k8 hi11 ?_
    refine e_lload (pc := 65) (i := 7) dX11_gets_65 rfl ?_
    refine e_ladd (pc := 67) dX11_gets_67 ?_
    have hi12 := hv.1
    replace hv := hv.2
    obtain ⟨w13, hw13⟩ : ∃ w13 : Wd, w13 = yJ w (wR w 11 59 l0) (xI w (wR w 11 47 l0) l6.toNatClampNeg).toNatClampNeg ((xJ w (wR w 11 59 l0) (xI w (wR w 11 47 l0) l6.toNatClampNeg).toNatClampNeg) + (if ((xJ w (wR w 11 60 l0) (xI w (wR w 11 47 l0) l6.toNatClampNeg).toNatClampNeg) - (xJ w (wR w 11 59 l0) (xI w (wR w 11 47 l0) l6.toNatClampNeg).toNatClampNeg)) < l4 then ((xJ w (wR w 11 60 l0) (xI w (wR w 11 47 l0) l6.toNatClampNeg).toNatClampNeg) - (xJ w (wR w 11 59 l0) (xI w (wR w 11 47 l0) l6.toNatClampNeg).toNatClampNeg)) else l4)) := ⟨_, rfl⟩
    replace hv := hv w13 hw13
    refine e_last (pc := 68) dX11_gets_68 k8 hi12 ?_
    rw [← hw13]
    refine e_lload (pc := 69) (i := 4) dX11_gets_69 rfl ?_
    refine e_lload (pc := 71) (i := 7) dX11_gets_71 rfl ?_
    refine e_lsub (pc := 73) dX11_gets_73 ?_
    refine e_lstore (pc := 74) (i := 4) (lv' := [(0, vR l0), (4, vJ (l4 - (if ((xJ w (wR w 11 60 l0) (xI w (wR w 11 47 l0) l6.toNatClampNeg).toNatClampNeg) - (xJ w (wR w 11 59 l0) (xI w (wR w 11 47 l0) l6.toNatClampNeg).toNatClampNeg)) < l4 then ((xJ w (wR w 11 60 l0) (xI w (wR w 11 47 l0) l6.toNatClampNeg).toNatClampNeg) - (xJ w (wR w 11 59 l0) (xI w (wR w 11 47 l0) l6.toNatClampNeg).toNatClampNeg)) else l4))), (6, vI l6), (7, vJ (if ((xJ w (wR w 11 60 l0) (xI w (wR w 11 47 l0) l6.toNatClampNeg).toNatClampNeg) - (xJ w (wR w 11 59 l0) (xI w (wR w 11 47 l0) l6.toNatClampNeg).toNatClampNeg)) < l4 then ((xJ w (wR w 11 60 l0) (xI w (wR w 11 47 l0) l6.toNatClampNeg).toNatClampNeg) - (xJ w (wR w 11 59 l0) (xI w (wR w 11 47 l0) l6.toNatClampNeg).toNatClampNeg)) else l4))]) dX11_gets_74 (by decide) rfl ?_
    refine e_iinc (pc := 76) (v := l6 + 1) (lv' := [(0, vR l0), (4, vJ (l4 - (if ((xJ w (wR w 11 60 l0) (xI w (wR w 11 47 l0) l6.toNatClampNeg).toNatClampNeg) - (xJ w (wR w 11 59 l0) (xI w (wR w 11 47 l0) l6.toNatClampNeg).toNatClampNeg)) < l4 then ((xJ w (wR w 11 60 l0) (xI w (wR w 11 47 l0) l6.toNatClampNeg).toNatClampNeg) - (xJ w (wR w 11 59 l0) (xI w (wR w 11 47 l0) l6.toNatClampNeg).toNatClampNeg)) else l4))), (6, vI (l6 + 1)), (7, vJ (if ((xJ w (wR w 11 60 l0) (xI w (wR w 11 47 l0) l6.toNatClampNeg).toNatClampNeg) - (xJ w (wR w 11 59 l0) (xI w (wR w 11 47 l0) l6.toNatClampNeg).toNatClampNeg)) < l4 then ((xJ w (wR w 11 60 l0) (xI w (wR w 11 47 l0) l6.toNatClampNeg).toNatClampNeg) - (xJ w (wR w 11 59 l0) (xI w (wR w 11 47 l0) l6.toNatClampNeg).toNatClampNeg)) else l4))]) dX11_gets_76 rfl rfl (by decide) rfl ?_
    refine e_goto (pc := 79) (tgt := 11) dX11_gets_79 (by decide) ?_
    exact EJ.drop [0, 4, 6] rfl hv
set_option maxRecDepth 100000 in
set_option maxHeartbeats 4000000 in
theorem oX11_gets (X : Cx) (A : Wd → Prop) (a0 : Nat) (a1 : Int32) (a2 : Int64) (w : Wd)
    (hv : wK w a0 = 12 ∧ Ct X bX11_leavesOf mX11_leavesOf [vR a0, vI a1] w (qV fun w1 => jX11_gets_11 X A a0 a2 0 w1)) :
    Ct X bX11_gets mX11_gets [vR a0, vI a1, vJ a2] w (qV A) := by
  refine Ct.of (lv := [(0, vR a0), (1, vI a1), (2, vJ a2)]) rfl (Nat.le_of_ble_eq_true rfl) rfl ?_
  refine e_aload_n (pc := 0) (i := 0) dX11_gets_0 rfl rfl ?_
  refine e_iload_n (pc := 1) (i := 1) dX11_gets_1 rfl rfl ?_
  have k3 := hv.1
  replace hv := hv.2
  refine e_callVv (pc := 2) (ci := 11) (st := []) (rc' := 0) (rs' := 0) (B' := bX11_leavesOf) [vI a1] dX11_gets_2 vRX11_206 kX11_leavesOf (by decide) rfl k3 rfl rfl (Nat.le_of_ble_eq_true rfl) ⟨Nat.le_of_ble_eq_true rfl, Nat.le_of_ble_eq_true rfl⟩ rfl rfl hv (fun w1 hv => ?_)
  refine e_lload_n (pc := 5) (i := 2) dX11_gets_5 rfl rfl ?_
  refine e_lstore (pc := 6) (i := 4) (lv' := [(0, vR a0), (1, vI a1), (2, vJ a2), (4, vJ a2)]) dX11_gets_6 (by decide) rfl ?_
  refine e_iconst (pc := 8) (v := 0) dX11_gets_8 (by decide) ?_
  refine e_istore (pc := 9) (i := 6) (lv' := [(0, vR a0), (1, vI a1), (2, vJ a2), (4, vJ a2), (6, vI 0)]) dX11_gets_9 (by decide) rfl ?_
  exact EJ.drop [0, 4, 6] rfl hv
abbrev jX11_gives_16 (X : Cx) (A : Wd → Prop) (l0 : Nat) (l4 : Int64) (l6 : Int32) (w : Wd) : Prop := EJ X mX11_gives (vw X bX11_gives (qV A)) 0 0 16 [(0, vR l0), (4, vJ l4), (6, vI l6)] [] w
set_option maxRecDepth 100000 in
set_option maxHeartbeats 4000000 in
theorem tX11_gives_16 (X : Cx) (A : Wd → Prop) (l0 : Nat) (l4 : Int64) (l6 : Int32) (w : Wd)
    (hv : ((l6 < 0) → A w) ∧ ((¬ l6 < 0) → wK w l0 = 12 ∧ wK w (wR w 11 47 l0) = 13 ∧ vp_in l6 (wL w (wR w 11 47 l0)) ∧ wK w (wR w 11 59 l0) = 14 ∧ vp_in (xI w (wR w 11 47 l0) l6.toNatClampNeg) (wL w (wR w 11 59 l0)) ∧ vp_in l6 (wL w (wR w 11 47 l0)) ∧ vp_in (xI w (wR w 11 47 l0) l6.toNatClampNeg) (wL w (wR w 11 59 l0)) ∧ vp_in (xI w (wR w 11 47 l0) l6.toNatClampNeg) (wL w (wR w 11 59 l0)) ∧ ∀ w10 : Wd, w10 = yJ w (wR w 11 59 l0) (xI w (wR w 11 47 l0) l6.toNatClampNeg).toNatClampNeg ((xJ w (wR w 11 59 l0) (xI w (wR w 11 47 l0) l6.toNatClampNeg).toNatClampNeg) - (if (xJ w (wR w 11 59 l0) (xI w (wR w 11 47 l0) l6.toNatClampNeg).toNatClampNeg) < l4 then (xJ w (wR w 11 59 l0) (xI w (wR w 11 47 l0) l6.toNatClampNeg).toNatClampNeg) else l4)) → jX11_gives_16 X A l0 (l4 - (if (xJ w (wR w 11 59 l0) (xI w (wR w 11 47 l0) l6.toNatClampNeg).toNatClampNeg) < l4 then (xJ w (wR w 11 59 l0) (xI w (wR w 11 47 l0) l6.toNatClampNeg).toNatClampNeg) else l4)) (l6 + (-1)) w10)) :
    jX11_gives_16 X A l0 l4 l6 w := by
  refine e_iload (pc := 16) (i := 6) dX11_gives_16 rfl ?_
  refine e_if_lt (pc := 18) (tgt := 70) dX11_gives_18 (by decide) (fun h1 => ?_) (fun h1 => ?_)
  · replace hv := hv.1 h1
    exact e_vreturn (pc := 70) dX11_gives_70 rfl ⟨rfl, hv⟩
  · replace hv := hv.2 h1
    refine e_lload (pc := 21) (i := 4) dX11_gives_21 rfl ?_
    refine e_aload_n (pc := 23) (i := 0) dX11_gives_23 rfl rfl ?_
    have k2 := hv.1
    replace hv := hv.2
    refine e_getR (pc := 24) dX11_gives_24 fRX11_148 rfl k2 ?_
    refine e_aload_n (pc := 27) (i := 0) dX11_gives_27 rfl rfl ?_
    refine e_getR (pc := 28) dX11_gives_28 fRX11_124 rfl k2 ?_
    refine e_iload (pc := 31) (i := 6) dX11_gives_31 rfl ?_
    have k3 := hv.1
    replace hv := hv.2
    have hi4 := hv.1
    replace hv := hv.2
    refine e_iald (pc := 33) dX11_gives_33 k3 hi4 ?_
    have k5 := hv.1
    replace hv := hv.2
    have hi6 := hv.1
    replace hv := hv.2
    refine e_lald (pc := 34) dX11_gives_34 k5 hi6 ?_
    refine e_mminJ (pc := 35) dX11_gives_35 (tb_a5 138 (by decide +kernel) rfl) (Nat.le_of_ble_eq_true rfl) (Nat.le_of_ble_eq_true rfl) ?_
    refine e_lstore (pc := 38) (i := 7) (lv' := [(0, vR l0), (4, vJ l4), (6, vI l6), (7, vJ (if (xJ w (wR w 11 59 l0) (xI w (wR w 11 47 l0) l6.toNatClampNeg).toNatClampNeg) < l4 then (xJ w (wR w 11 59 l0) (xI w (wR w 11 47 l0) l6.toNatClampNeg).toNatClampNeg) else l4))]) dX11_gives_38 (by decide) rfl ?_
    refine e_aload_n (pc := 40) (i := 0) dX11_gives_40 rfl rfl ?_
    refine e_getR (pc := 41) dX11_gives_41 fRX11_148 rfl k2 ?_
    refine e_aload_n (pc := 44) (i := 0) dX11_gives_44 rfl rfl ?_
    refine e_getR (pc := 45) dX11_gives_45 fRX11_124 rfl k2 ?_
    refine e_iload (pc := 48) (i := 6) dX11_gives_48 rfl ?_
    have hi7 := hv.1
    replace hv := hv.2
    refine e_iald (pc := 50) dX11_gives_50 k3 hi7 ?_
    refine e_dup2_11 (pc := 51) dX11_gives_51 rfl rfl ?_
    have hi8 := hv.1
    replace hv := hv.2
    refine e_lald (pc := 52) dX11_gives_52 k5 hi8 ?_
    refine e_lload (pc := 53) (i := 7) dX11_gives_53 rfl ?_
    refine e_lsub (pc := 55) dX11_gives_55 ?_
    have hi9 := hv.1
    replace hv := hv.2
    obtain ⟨w10, hw10⟩ : ∃ w10 : Wd, w10 = yJ w (wR w 11 59 l0) (xI w (wR w 11 47 l0) l6.toNatClampNeg).toNatClampNeg ((xJ w (wR w 11 59 l0) (xI w (wR w 11 47 l0) l6.toNatClampNeg).toNatClampNeg) - (if (xJ w (wR w 11 59 l0) (xI w (wR w 11 47 l0) l6.toNatClampNeg).toNatClampNeg) < l4 then (xJ w (wR w 11 59 l0) (xI w (wR w 11 47 l0) l6.toNatClampNeg).toNatClampNeg) else l4)) := ⟨_, rfl⟩
    replace hv := hv w10 hw10
    refine e_last (pc := 56) dX11_gives_56 k5 hi9 ?_
    rw [← hw10]
    refine e_lload (pc := 57) (i := 4) dX11_gives_57 rfl ?_
    refine e_lload (pc := 59) (i := 7) dX11_gives_59 rfl ?_
    refine e_lsub (pc := 61) dX11_gives_61 ?_
    refine e_lstore (pc := 62) (i := 4) (lv' := [(0, vR l0), (4, vJ (l4 - (if (xJ w (wR w 11 59 l0) (xI w (wR w 11 47 l0) l6.toNatClampNeg).toNatClampNeg) < l4 then (xJ w (wR w 11 59 l0) (xI w (wR w 11 47 l0) l6.toNatClampNeg).toNatClampNeg) else l4))), (6, vI l6), (7, vJ (if (xJ w (wR w 11 59 l0) (xI w (wR w 11 47 l0) l6.toNatClampNeg).toNatClampNeg) < l4 then (xJ w (wR w 11 59 l0) (xI w (wR w 11 47 l0) l6.toNatClampNeg).toNatClampNeg) else l4))]) dX11_gives_62 (by decide) rfl ?_
    refine e_iinc (pc := 64) (v := l6 + (-1)) (lv' := [(0, vR l0), (4, vJ (l4 - (if (xJ w (wR w 11 59 l0) (xI w (wR w 11 47 l0) l6.toNatClampNeg).toNatClampNeg) < l4 then (xJ w (wR w 11 59 l0) (xI w (wR w 11 47 l0) l6.toNatClampNeg).toNatClampNeg) else l4))), (6, vI (l6 + (-1))), (7, vJ (if (xJ w (wR w 11 59 l0) (xI w (wR w 11 47 l0) l6.toNatClampNeg).toNatClampNeg) < l4 then (xJ w (wR w 11 59 l0) (xI w (wR w 11 47 l0) l6.toNatClampNeg).toNatClampNeg) else l4))]) dX11_gives_64 rfl rfl (by decide) rfl ?_
    refine e_goto (pc := 67) (tgt := 16) dX11_gives_67 (by decide) ?_
    exact EJ.drop [0, 4, 6] rfl hv
set_option maxRecDepth 100000 in
set_option maxHeartbeats 4000000 in
theorem oX11_gives (X : Cx) (A : Wd → Prop) (a0 : Nat) (a1 : Int32) (a2 : Int64) (w : Wd)
    (hv : wK w a0 = 12 ∧ Ct X bX11_leavesOf mX11_leavesOf [vR a0, vI a1] w (qV fun w1 => wK w1 a0 = 12 ∧ jX11_gives_16 X A a0 a2 ((wI w1 11 48 a0) - 1) w1)) :
    Ct X bX11_gives mX11_gives [vR a0, vI a1, vJ a2] w (qV A) := by
  refine Ct.of (lv := [(0, vR a0), (1, vI a1), (2, vJ a2)]) rfl (Nat.le_of_ble_eq_true rfl) rfl ?_
  refine e_aload_n (pc := 0) (i := 0) dX11_gives_0 rfl rfl ?_
  refine e_iload_n (pc := 1) (i := 1) dX11_gives_1 rfl rfl ?_
  have k3 := hv.1
  replace hv := hv.2
  refine e_callVv (pc := 2) (ci := 11) (st := []) (rc' := 0) (rs' := 0) (B' := bX11_leavesOf) [vI a1] dX11_gives_2 vRX11_206 kX11_leavesOf (by decide) rfl k3 rfl rfl (Nat.le_of_ble_eq_true rfl) ⟨Nat.le_of_ble_eq_true rfl, Nat.le_of_ble_eq_true rfl⟩ rfl rfl hv (fun w1 hv => ?_)
  refine e_lload_n (pc := 5) (i := 2) dX11_gives_5 rfl rfl ?_
  refine e_lstore (pc := 6) (i := 4) (lv' := [(0, vR a0), (1, vI a1), (2, vJ a2), (4, vJ a2)]) dX11_gives_6 (by decide) rfl ?_
  refine e_aload_n (pc := 8) (i := 0) dX11_gives_8 rfl rfl ?_
  have k4 := hv.1
  replace hv := hv.2
  refine e_getI (pc := 9) dX11_gives_9 fRX11_199 rfl k4 ?_
  refine e_iconst (pc := 12) (v := 1) dX11_gives_12 (by decide) ?_
  refine e_isub (pc := 13) dX11_gives_13 ?_
  refine e_istore (pc := 14) (i := 6) (lv' := [(0, vR a0), (1, vI a1), (2, vJ a2), (4, vJ a2), (6, vI ((wI w1 11 48 a0) - 1))]) dX11_gives_14 (by decide) rfl ?_
  exact EJ.drop [0, 4, 6] rfl hv
abbrev jX11_prepare_2 (X : Cx) (A : Wd → Prop) (l0 : Nat) (l1 : Int32) (l2 : Int32) (w : Wd) : Prop := EJ X mX11_prepare (vw X bX11_prepare (qV A)) 0 0 2 [(0, vR l0), (1, vI l1), (2, vI l2)] [] w
abbrev jX11_prepare_39 (X : Cx) (A : Wd → Prop) (l0 : Nat) (l1 : Int32) (l2 : Int32) (w : Wd) : Prop := EJ X mX11_prepare (vw X bX11_prepare (qV A)) 0 0 39 [(0, vR l0), (1, vI l1), (2, vI l2)] [] w
abbrev jX11_prepare_59 (X : Cx) (A : Wd → Prop) (l0 : Nat) (l1 : Int32) (l2 : Int32) (l3 : Int32) (w : Wd) : Prop := EJ X mX11_prepare (vw X bX11_prepare (qV A)) 0 0 59 [(0, vR l0), (1, vI l1), (2, vI l2), (3, vI l3)] [] w
abbrev jX11_prepare_96 (X : Cx) (A : Wd → Prop) (l0 : Nat) (l1 : Int32) (l2 : Int32) (l3 : Int32) (l4 : Int32) (s0 : Int32) (s1 : Int32) (s2 : Nat) (w : Wd) : Prop := EJ X mX11_prepare (vw X bX11_prepare (qV A)) 0 0 96 [(0, vR l0), (1, vI l1), (2, vI l2), (3, vI l3), (4, vI l4)] [vI s0, vI s1, vR s2] w
set_option maxRecDepth 100000 in
set_option maxHeartbeats 4000000 in
theorem tX11_prepare_96 (X : Cx) (A : Wd → Prop) (l0 : Nat) (l1 : Int32) (l2 : Int32) (l3 : Int32) (l4 : Int32) (s0 : Int32) (s1 : Int32) (s2 : Nat) (w : Wd)
    (hv : wK w s2 = 15 ∧ vp_in s1 (wL w s2) ∧ ∀ w3 : Wd, w3 = yI w s2 s1.toNatClampNeg (vp_nar .boolean s0) → wK w3 l0 = 12 ∧ wK w3 (wR w3 11 61 l0) = 15 ∧ vp_in l4 (wL w3 (wR w3 11 61 l0)) ∧ (((xI w3 (wR w3 11 61 l0) l4.toNatClampNeg) = 0) → wK w3 (wR w3 11 60 l0) = 14 ∧ vp_in l4 (wL w3 (wR w3 11 60 l0)) ∧ ∀ w10 : Wd, w10 = yJ w3 (wR w3 11 60 l0) l4.toNatClampNeg 0 → jX11_prepare_59 X A l0 l1 l2 (l3 + 1) w10) ∧ ((¬ (xI w3 (wR w3 11 61 l0) l4.toNatClampNeg) = 0) → wK w3 (wR w3 11 49 l0) = 14 ∧ vp_in l4 (wL w3 (wR w3 11 49 l0)) ∧ wK w3 (wR w3 11 60 l0) = 14 ∧ vp_in l4 (wL w3 (wR w3 11 60 l0)) ∧ ∀ w15 : Wd, w15 = yJ w3 (wR w3 11 60 l0) l4.toNatClampNeg (xJ w3 (wR w3 11 49 l0) l4.toNatClampNeg) → jX11_prepare_59 X A l0 l1 l2 (l3 + 1) w15)) :
    jX11_prepare_96 X A l0 l1 l2 l3 l4 s0 s1 s2 w := by
  have k1 := hv.1
  replace hv := hv.2
  have hi2 := hv.1
  replace hv := hv.2
  obtain ⟨w3, hw3⟩ : ∃ w3 : Wd, w3 = yI w s2 s1.toNatClampNeg (vp_nar .boolean s0) := ⟨_, rfl⟩
  replace hv := hv w3 hw3
  refine e_zast (pc := 96) dX11_prepare_96 k1 hi2 ?_
  rw [← hw3]
  refine e_aload_n (pc := 97) (i := 0) dX11_prepare_97 rfl rfl ?_
  have k4 := hv.1
  replace hv := hv.2
  refine e_getR (pc := 98) dX11_prepare_98 fRX11_151 rfl k4 ?_
  refine e_iload (pc := 101) (i := 4) dX11_prepare_101 rfl ?_
  refine e_aload_n (pc := 103) (i := 0) dX11_prepare_103 rfl rfl ?_
  refine e_getR (pc := 104) dX11_prepare_104 fRX11_154 rfl k4 ?_
  refine e_iload (pc := 107) (i := 4) dX11_prepare_107 rfl ?_
  have k5 := hv.1
  replace hv := hv.2
  have hi6 := hv.1
  replace hv := hv.2
  refine e_zald (pc := 109) dX11_prepare_109 k5 hi6 ?_
  refine e_if_eq (pc := 110) (tgt := 123) dX11_prepare_110 (by decide) (fun h7 => ?_) (fun h7 => ?_)
  · replace hv := hv.1 h7
    refine e_lconst (pc := 123) (v := 0) dX11_prepare_123 (by decide) ?_
    have k8 := hv.1
    replace hv := hv.2
    have hi9 := hv.1
    replace hv := hv.2
    obtain ⟨w10, hw10⟩ : ∃ w10 : Wd, w10 = yJ w3 (wR w3 11 60 l0) l4.toNatClampNeg 0 := ⟨_, rfl⟩
    replace hv := hv w10 hw10
    refine e_last (pc := 124) dX11_prepare_124 k8 hi9 ?_
    rw [← hw10]
    refine e_iinc (pc := 125) (v := l3 + 1) (lv' := [(0, vR l0), (1, vI l1), (2, vI l2), (3, vI (l3 + 1)), (4, vI l4)]) dX11_prepare_125 rfl rfl (by decide) rfl ?_
    refine e_goto (pc := 128) (tgt := 59) dX11_prepare_128 (by decide) ?_
    exact EJ.drop [0, 1, 2, 3] rfl hv
  · replace hv := hv.2 h7
    refine e_aload_n (pc := 113) (i := 0) dX11_prepare_113 rfl rfl ?_
    refine e_getR (pc := 114) dX11_prepare_114 fRX11_127 rfl k4 ?_
    refine e_iload (pc := 117) (i := 4) dX11_prepare_117 rfl ?_
    have k11 := hv.1
    replace hv := hv.2
    have hi12 := hv.1
    replace hv := hv.2
    refine e_lald (pc := 119) dX11_prepare_119 k11 hi12 ?_
    refine e_goto (pc := 120) (tgt := 124) dX11_prepare_120 (by decide) ?_
    have k13 := hv.1
    replace hv := hv.2
    have hi14 := hv.1
    replace hv := hv.2
    obtain ⟨w15, hw15⟩ : ∃ w15 : Wd, w15 = yJ w3 (wR w3 11 60 l0) l4.toNatClampNeg (xJ w3 (wR w3 11 49 l0) l4.toNatClampNeg) := ⟨_, rfl⟩
    replace hv := hv w15 hw15
    refine e_last (pc := 124) dX11_prepare_124 k13 hi14 ?_
    rw [← hw15]
    refine e_iinc (pc := 125) (v := l3 + 1) (lv' := [(0, vR l0), (1, vI l1), (2, vI l2), (3, vI (l3 + 1)), (4, vI l4)]) dX11_prepare_125 rfl rfl (by decide) rfl ?_
    refine e_goto (pc := 128) (tgt := 59) dX11_prepare_128 (by decide) ?_
    exact EJ.drop [0, 1, 2, 3] rfl hv
set_option maxRecDepth 100000 in
set_option maxHeartbeats 4000000 in
theorem tX11_prepare_59 (X : Cx) (A : Wd → Prop) (l0 : Nat) (l1 : Int32) (l2 : Int32) (l3 : Int32) (w : Wd)
    (hv : wK w l0 = 12 ∧ (((wI w 11 48 l0) ≤ l3) → jX11_prepare_39 X A l0 l1 (l2 + 1) w) ∧ ((¬ (wI w 11 48 l0) ≤ l3) → wK w (wR w 11 47 l0) = 13 ∧ vp_in l3 (wL w (wR w 11 47 l0)) ∧ Ct X bX11_isOff mX11_isOff [vR l0, vI (xI w (wR w 11 47 l0) l3.toNatClampNeg), vI l1] w (qI fun x6 w5 => ((¬ x6 = 0) → jX11_prepare_96 X A l0 l1 l2 l3 (xI w (wR w 11 47 l0) l3.toNatClampNeg) 0 (xI w (wR w 11 47 l0) l3.toNatClampNeg) (wR w 11 61 l0) w5) ∧ ((x6 = 0) → jX11_prepare_96 X A l0 l1 l2 l3 (xI w (wR w 11 47 l0) l3.toNatClampNeg) 1 (xI w (wR w 11 47 l0) l3.toNatClampNeg) (wR w 11 61 l0) w5)))) :
    jX11_prepare_59 X A l0 l1 l2 l3 w := by
  refine e_iload_n (pc := 59) (i := 3) dX11_prepare_59 rfl rfl ?_
  refine e_aload_n (pc := 60) (i := 0) dX11_prepare_60 rfl rfl ?_
  have k1 := hv.1
  replace hv := hv.2
  refine e_getI (pc := 61) dX11_prepare_61 fRX11_199 rfl k1 ?_
  refine e_icmp_ge (pc := 64) (tgt := 131) dX11_prepare_64 (by decide) (fun h2 => ?_) (fun h2 => ?_)
  · replace hv := hv.1 h2
    refine e_iinc (pc := 131) (v := l2 + 1) (lv' := [(0, vR l0), (1, vI l1), (2, vI (l2 + 1)), (3, vI l3)]) dX11_prepare_131 rfl rfl (by decide) rfl ?_
    refine e_goto (pc := 134) (tgt := 39) dX11_prepare_134 (by decide) ?_
    exact EJ.drop [0, 1, 2] rfl hv
  · replace hv := hv.2 h2
    refine e_aload_n (pc := 67) (i := 0) dX11_prepare_67 rfl rfl ?_
    refine e_getR (pc := 68) dX11_prepare_68 fRX11_124 rfl k1 ?_
    refine e_iload_n (pc := 71) (i := 3) dX11_prepare_71 rfl rfl ?_
    have k3 := hv.1
    replace hv := hv.2
    have hi4 := hv.1
    replace hv := hv.2
    refine e_iald (pc := 72) dX11_prepare_72 k3 hi4 ?_
    refine e_istore (pc := 73) (i := 4) (lv' := [(0, vR l0), (1, vI l1), (2, vI l2), (3, vI l3), (4, vI (xI w (wR w 11 47 l0) l3.toNatClampNeg))]) dX11_prepare_73 (by decide) rfl ?_
    refine e_aload_n (pc := 75) (i := 0) dX11_prepare_75 rfl rfl ?_
    refine e_getR (pc := 76) dX11_prepare_76 fRX11_154 rfl k1 ?_
    refine e_iload (pc := 79) (i := 4) dX11_prepare_79 rfl ?_
    refine e_aload_n (pc := 81) (i := 0) dX11_prepare_81 rfl rfl ?_
    refine e_iload (pc := 82) (i := 4) dX11_prepare_82 rfl ?_
    refine e_iload_n (pc := 84) (i := 1) dX11_prepare_84 rfl rfl ?_
    refine e_callVi (pc := 85) (ci := 11) (st := [vI (xI w (wR w 11 47 l0) l3.toNatClampNeg), vR (wR w 11 61 l0)]) (rc' := 0) (rs' := 0) (B' := bX11_isOff) [vI (xI w (wR w 11 47 l0) l3.toNatClampNeg), vI l1] dX11_prepare_85 vRX11_189 kX11_isOff (by decide) rfl k1 rfl rfl (Nat.le_of_ble_eq_true rfl) ⟨Nat.le_of_ble_eq_true rfl, Nat.le_of_ble_eq_true rfl⟩ rfl rfl hv (fun x6 w5 hv => ?_)
    refine e_if_ne (pc := 88) (tgt := 95) dX11_prepare_88 (by decide) (fun h7 => ?_) (fun h7 => ?_)
    · replace hv := hv.1 h7
      refine e_iconst (pc := 95) (v := 0) dX11_prepare_95 (by decide) ?_
      exact hv
    · replace hv := hv.2 h7
      refine e_iconst (pc := 91) (v := 1) dX11_prepare_91 (by decide) ?_
      refine e_goto (pc := 92) (tgt := 96) dX11_prepare_92 (by decide) ?_
      exact hv
set_option maxRecDepth 100000 in
set_option maxHeartbeats 4000000 in
theorem tX11_prepare_39 (X : Cx) (A : Wd → Prop) (l0 : Nat) (l1 : Int32) (l2 : Int32) (w : Wd)
    (hv : wK w l0 = 12 ∧ (((wI w 11 58 l0) ≤ l2) → A w) ∧ ((¬ (wI w 11 58 l0) ≤ l2) → wK w (wR w 11 55 l0) = 13 ∧ vp_in l2 (wL w (wR w 11 55 l0)) ∧ Ct X bX11_dues mX11_dues [vR l0, vI (xI w (wR w 11 55 l0) l2.toNatClampNeg)] w (qV fun w5 => jX11_prepare_59 X A l0 l1 l2 0 w5))) :
    jX11_prepare_39 X A l0 l1 l2 w := by
  refine e_iload_n (pc := 39) (i := 2) dX11_prepare_39 rfl rfl ?_
  refine e_aload_n (pc := 40) (i := 0) dX11_prepare_40 rfl rfl ?_
  have k1 := hv.1
  replace hv := hv.2
  refine e_getI (pc := 41) dX11_prepare_41 fRX11_313 rfl k1 ?_
  refine e_icmp_ge (pc := 44) (tgt := 137) dX11_prepare_44 (by decide) (fun h2 => ?_) (fun h2 => ?_)
  · replace hv := hv.1 h2
    exact e_vreturn (pc := 137) dX11_prepare_137 rfl ⟨rfl, hv⟩
  · replace hv := hv.2 h2
    refine e_aload_n (pc := 47) (i := 0) dX11_prepare_47 rfl rfl ?_
    refine e_aload_n (pc := 48) (i := 0) dX11_prepare_48 rfl rfl ?_
    refine e_getR (pc := 49) dX11_prepare_49 fRX11_142 rfl k1 ?_
    refine e_iload_n (pc := 52) (i := 2) dX11_prepare_52 rfl rfl ?_
    have k3 := hv.1
    replace hv := hv.2
    have hi4 := hv.1
    replace hv := hv.2
    refine e_iald (pc := 53) dX11_prepare_53 k3 hi4 ?_
    refine e_callVv (pc := 54) (ci := 11) (st := []) (rc' := 0) (rs' := 0) (B' := bX11_dues) [vI (xI w (wR w 11 55 l0) l2.toNatClampNeg)] dX11_prepare_54 vRX11_229 kX11_dues (by decide) rfl k1 rfl rfl (Nat.le_of_ble_eq_true rfl) ⟨Nat.le_of_ble_eq_true rfl, Nat.le_of_ble_eq_true rfl⟩ rfl rfl hv (fun w5 hv => ?_)
    refine e_iconst (pc := 57) (v := 0) dX11_prepare_57 (by decide) ?_
    refine e_istore_n (pc := 58) (i := 3) (lv' := [(0, vR l0), (1, vI l1), (2, vI l2), (3, vI 0)]) dX11_prepare_58 rfl (by decide) rfl ?_
    exact hv
set_option maxRecDepth 100000 in
set_option maxHeartbeats 4000000 in
theorem tX11_prepare_2 (X : Cx) (A : Wd → Prop) (l0 : Nat) (l1 : Int32) (l2 : Int32) (w : Wd)
    (hv : wK w l0 = 12 ∧ (((wI w 11 30 l0) < l2) → jX11_prepare_39 X A l0 l1 0 w) ∧ ((¬ (wI w 11 30 l0) < l2) → wK w (wR w 11 59 l0) = 14 ∧ vp_in l2 (wL w (wR w 11 59 l0)) ∧ ∀ w5 : Wd, w5 = yJ w (wR w 11 59 l0) l2.toNatClampNeg 0 → wK w5 (wR w5 11 60 l0) = 14 ∧ vp_in l2 (wL w5 (wR w5 11 60 l0)) ∧ ∀ w9 : Wd, w9 = yJ w5 (wR w5 11 60 l0) l2.toNatClampNeg 0 → wK w9 (wR w9 11 61 l0) = 15 ∧ vp_in l2 (wL w9 (wR w9 11 61 l0)) ∧ ∀ w13 : Wd, w13 = yI w9 (wR w9 11 61 l0) l2.toNatClampNeg (vp_nar .boolean 0) → jX11_prepare_2 X A l0 l1 (l2 + 1) w13)) :
    jX11_prepare_2 X A l0 l1 l2 w := by
  refine e_iload_n (pc := 2) (i := 2) dX11_prepare_2 rfl rfl ?_
  refine e_aload_n (pc := 3) (i := 0) dX11_prepare_3 rfl rfl ?_
  have k1 := hv.1
  replace hv := hv.2
  refine e_getI (pc := 4) dX11_prepare_4 fRX11_169 rfl k1 ?_
  refine e_icmp_gt (pc := 7) (tgt := 37) dX11_prepare_7 (by decide) (fun h2 => ?_) (fun h2 => ?_)
  · replace hv := hv.1 h2
    refine e_iconst (pc := 37) (v := 0) dX11_prepare_37 (by decide) ?_
    refine e_istore_n (pc := 38) (i := 2) (lv' := [(0, vR l0), (1, vI l1), (2, vI 0)]) dX11_prepare_38 rfl (by decide) rfl ?_
    exact hv
  · replace hv := hv.2 h2
    refine e_aload_n (pc := 10) (i := 0) dX11_prepare_10 rfl rfl ?_
    refine e_getR (pc := 11) dX11_prepare_11 fRX11_148 rfl k1 ?_
    refine e_iload_n (pc := 14) (i := 2) dX11_prepare_14 rfl rfl ?_
    refine e_lconst (pc := 15) (v := 0) dX11_prepare_15 (by decide) ?_
    have k3 := hv.1
    replace hv := hv.2
    have hi4 := hv.1
    replace hv := hv.2
    obtain ⟨w5, hw5⟩ : ∃ w5 : Wd, w5 = yJ w (wR w 11 59 l0) l2.toNatClampNeg 0 := ⟨_, rfl⟩
    replace hv := hv w5 hw5
    refine e_last (pc := 16) dX11_prepare_16 k3 hi4 ?_
    rw [← hw5]
    refine e_aload_n (pc := 17) (i := 0) dX11_prepare_17 rfl rfl ?_
    have k6 : wK w5 l0 = 12 := (by rw [hw5]; exact k1)
    refine e_getR (pc := 18) dX11_prepare_18 fRX11_151 rfl k6 ?_
    refine e_iload_n (pc := 21) (i := 2) dX11_prepare_21 rfl rfl ?_
    refine e_lconst (pc := 22) (v := 0) dX11_prepare_22 (by decide) ?_
    have k7 := hv.1
    replace hv := hv.2
    have hi8 := hv.1
    replace hv := hv.2
    obtain ⟨w9, hw9⟩ : ∃ w9 : Wd, w9 = yJ w5 (wR w5 11 60 l0) l2.toNatClampNeg 0 := ⟨_, rfl⟩
    replace hv := hv w9 hw9
    refine e_last (pc := 23) dX11_prepare_23 k7 hi8 ?_
    rw [← hw9]
    refine e_aload_n (pc := 24) (i := 0) dX11_prepare_24 rfl rfl ?_
    have k10 : wK w9 l0 = 12 := (by rw [hw9]; exact k6)
    refine e_getR (pc := 25) dX11_prepare_25 fRX11_154 rfl k10 ?_
    refine e_iload_n (pc := 28) (i := 2) dX11_prepare_28 rfl rfl ?_
    refine e_iconst (pc := 29) (v := 0) dX11_prepare_29 (by decide) ?_
    have k11 := hv.1
    replace hv := hv.2
    have hi12 := hv.1
    replace hv := hv.2
    obtain ⟨w13, hw13⟩ : ∃ w13 : Wd, w13 = yI w9 (wR w9 11 61 l0) l2.toNatClampNeg (vp_nar .boolean 0) := ⟨_, rfl⟩
    replace hv := hv w13 hw13
    refine e_zast (pc := 30) dX11_prepare_30 k11 hi12 ?_
    rw [← hw13]
    refine e_iinc (pc := 31) (v := l2 + 1) (lv' := [(0, vR l0), (1, vI l1), (2, vI (l2 + 1))]) dX11_prepare_31 rfl rfl (by decide) rfl ?_
    refine e_goto (pc := 34) (tgt := 2) dX11_prepare_34 (by decide) ?_
    exact hv
set_option maxRecDepth 100000 in
set_option maxHeartbeats 4000000 in
theorem oX11_prepare (X : Cx) (A : Wd → Prop) (a0 : Nat) (a1 : Int32) (w : Wd)
    (hv : jX11_prepare_2 X A a0 a1 1 w) :
    Ct X bX11_prepare mX11_prepare [vR a0, vI a1] w (qV A) := by
  refine Ct.of (lv := [(0, vR a0), (1, vI a1)]) rfl (Nat.le_of_ble_eq_true rfl) rfl ?_
  refine e_iconst (pc := 0) (v := 1) dX11_prepare_0 (by decide) ?_
  refine e_istore_n (pc := 1) (i := 2) (lv' := [(0, vR a0), (1, vI a1), (2, vI 1)]) dX11_prepare_1 rfl (by decide) rfl ?_
  exact hv
abbrev jX11_give_24 (X : Cx) (A : Int64 → Wd → Prop) (l0 : Nat) (l1 : Int32) (l2 : Int32) (l7 : Int64) (l9 : Int32) (w : Wd) : Prop := EJ X mX11_give (vw X bX11_give (qJ A)) 0 0 24 [(0, vR l0), (1, vI l1), (2, vI l2), (7, vJ l7), (9, vI l9)] [] w
abbrev jX11_give_89 (X : Cx) (A : Int64 → Wd → Prop) (l0 : Nat) (l1 : Int32) (l2 : Int32) (l7 : Int64) (l9 : Int32) (l10 : Int32) (s0 : Int64) (w : Wd) : Prop := EJ X mX11_give (vw X bX11_give (qJ A)) 0 0 89 [(0, vR l0), (1, vI l1), (2, vI l2), (7, vJ l7), (9, vI l9), (10, vI l10)] [vJ s0] w
abbrev jX11_give_124 (X : Cx) (A : Int64 → Wd → Prop) (l0 : Nat) (l1 : Int32) (l2 : Int32) (l7 : Int64) (l9 : Int32) (w : Wd) : Prop := EJ X mX11_give (vw X bX11_give (qJ A)) 0 0 124 [(0, vR l0), (1, vI l1), (2, vI l2), (7, vJ l7), (9, vI l9)] [] w
abbrev jX11_give_261 (X : Cx) (A : Int64 → Wd → Prop) (l0 : Nat) (l7 : Int64) (l9 : Int32) (w : Wd) : Prop := EJ X mX11_give (vw X bX11_give (qJ A)) 0 0 261 [(0, vR l0), (7, vJ l7), (9, vI l9)] [] w
abbrev jX11_give_297 (X : Cx) (A : Int64 → Wd → Prop) (l0 : Nat) (l7 : Int64) (l9 : Int32) (w : Wd) : Prop := EJ X mX11_give (vw X bX11_give (qJ A)) 0 0 297 [(0, vR l0), (7, vJ l7), (9, vI l9)] [] w
set_option maxRecDepth 100000 in
set_option maxHeartbeats 4000000 in
theorem tX11_give_297 (X : Cx) (A : Int64 → Wd → Prop) (l0 : Nat) (l7 : Int64) (l9 : Int32) (w : Wd)
    (hv : ((301 ≤ l9) → wK w l0 = 12 ∧ ∀ w3 : Wd, w3 = sJ w 11 64 l0 l7 → A l7 w3) ∧ ((¬ 301 ≤ l9) → wK w l0 = 12 ∧ wK w (wR w 11 62 l0) = 14 ∧ vp_in l9 (wL w (wR w 11 62 l0)) ∧ ∀ w7 : Wd, w7 = yJ w (wR w 11 62 l0) l9.toNatClampNeg 0 → jX11_give_297 X A l0 l7 (l9 + 1) w7)) :
    jX11_give_297 X A l0 l7 l9 w := by
  refine e_iload (pc := 297) (i := 9) dX11_give_297 rfl ?_
  refine e_sipush (pc := 299) (v := 301) dX11_give_299 (by decide) ?_
  refine e_icmp_ge (pc := 302) (tgt := 319) dX11_give_302 (by decide) (fun h1 => ?_) (fun h1 => ?_)
  · replace hv := hv.1 h1
    refine e_aload_n (pc := 319) (i := 0) dX11_give_319 rfl rfl ?_
    refine e_lload (pc := 320) (i := 7) dX11_give_320 rfl ?_
    have k2 := hv.1
    replace hv := hv.2
    obtain ⟨w3, hw3⟩ : ∃ w3 : Wd, w3 = sJ w 11 64 l0 l7 := ⟨_, rfl⟩
    replace hv := hv w3 hw3
    refine e_putJ (pc := 322) dX11_give_322 fRX11_350 (Or.inl rfl) rfl k2 ?_
    rw [← hw3]
    refine e_lload (pc := 325) (i := 7) dX11_give_325 rfl ?_
    exact e_lreturn (pc := 327) dX11_give_327 rfl ⟨_, rfl, hv⟩
  · replace hv := hv.2 h1
    refine e_aload_n (pc := 305) (i := 0) dX11_give_305 rfl rfl ?_
    have k4 := hv.1
    replace hv := hv.2
    refine e_getR (pc := 306) dX11_give_306 fRX11_157 rfl k4 ?_
    refine e_iload (pc := 309) (i := 9) dX11_give_309 rfl ?_
    refine e_lconst (pc := 311) (v := 0) dX11_give_311 (by decide) ?_
    have k5 := hv.1
    replace hv := hv.2
    have hi6 := hv.1
    replace hv := hv.2
    obtain ⟨w7, hw7⟩ : ∃ w7 : Wd, w7 = yJ w (wR w 11 62 l0) l9.toNatClampNeg 0 := ⟨_, rfl⟩
    replace hv := hv w7 hw7
    refine e_last (pc := 312) dX11_give_312 k5 hi6 ?_
    rw [← hw7]
    refine e_iinc (pc := 313) (v := l9 + 1) (lv' := [(0, vR l0), (7, vJ l7), (9, vI (l9 + 1))]) dX11_give_313 rfl rfl (by decide) rfl ?_
    refine e_goto (pc := 316) (tgt := 297) dX11_give_316 (by decide) ?_
    exact hv
set_option maxRecDepth 100000 in
set_option maxHeartbeats 4000000 in
theorem tX11_give_261 (X : Cx) (A : Int64 → Wd → Prop) (l0 : Nat) (l7 : Int64) (l9 : Int32) (w : Wd)
    (hv : wK w l0 = 12 ∧ (((wI w 11 30 l0) < l9) → jX11_give_297 X A l0 l7 ((wI w 11 30 l0) + 1) w) ∧ ((¬ (wI w 11 30 l0) < l9) → Ct X bX11_gotBy mX11_gotBy [vR l0, vI l9] w (qJ fun x4 w3 => wK w3 (wR w 11 62 l0) = 14 ∧ vp_in l9 (wL w3 (wR w 11 62 l0)) ∧ ∀ w7 : Wd, w7 = yJ w3 (wR w 11 62 l0) l9.toNatClampNeg x4 → jX11_give_261 X A l0 l7 (l9 + 1) w7))) :
    jX11_give_261 X A l0 l7 l9 w := by
  refine e_iload (pc := 261) (i := 9) dX11_give_261 rfl ?_
  refine e_aload_n (pc := 263) (i := 0) dX11_give_263 rfl rfl ?_
  have k1 := hv.1
  replace hv := hv.2
  refine e_getI (pc := 264) dX11_give_264 fRX11_169 rfl k1 ?_
  refine e_icmp_gt (pc := 267) (tgt := 289) dX11_give_267 (by decide) (fun h2 => ?_) (fun h2 => ?_)
  · replace hv := hv.1 h2
    refine e_aload_n (pc := 289) (i := 0) dX11_give_289 rfl rfl ?_
    refine e_getI (pc := 290) dX11_give_290 fRX11_169 rfl k1 ?_
    refine e_iconst (pc := 293) (v := 1) dX11_give_293 (by decide) ?_
    refine e_iadd (pc := 294) dX11_give_294 ?_
    refine e_istore (pc := 295) (i := 9) (lv' := [(0, vR l0), (7, vJ l7), (9, vI ((wI w 11 30 l0) + 1))]) dX11_give_295 (by decide) rfl ?_
    exact hv
  · replace hv := hv.2 h2
    refine e_aload_n (pc := 270) (i := 0) dX11_give_270 rfl rfl ?_
    refine e_getR (pc := 271) dX11_give_271 fRX11_157 rfl k1 ?_
    refine e_iload (pc := 274) (i := 9) dX11_give_274 rfl ?_
    refine e_aload_n (pc := 276) (i := 0) dX11_give_276 rfl rfl ?_
    refine e_iload (pc := 277) (i := 9) dX11_give_277 rfl ?_
    refine e_callVj (pc := 279) (ci := 11) (st := [vI l9, vR (wR w 11 62 l0)]) (rc' := 0) (rs' := 0) (B' := bX11_gotBy) [vI l9] dX11_give_279 vRX11_340 kX11_gotBy (by decide) rfl k1 rfl rfl (Nat.le_of_ble_eq_true rfl) ⟨Nat.le_of_ble_eq_true rfl, Nat.le_of_ble_eq_true rfl⟩ rfl rfl hv (fun x4 w3 hv => ?_)
    have k5 := hv.1
    replace hv := hv.2
    have hi6 := hv.1
    replace hv := hv.2
    obtain ⟨w7, hw7⟩ : ∃ w7 : Wd, w7 = yJ w3 (wR w 11 62 l0) l9.toNatClampNeg x4 := ⟨_, rfl⟩
    replace hv := hv w7 hw7
    refine e_last (pc := 282) dX11_give_282 k5 hi6 ?_
    rw [← hw7]
    refine e_iinc (pc := 283) (v := l9 + 1) (lv' := [(0, vR l0), (7, vJ l7), (9, vI (l9 + 1))]) dX11_give_283 rfl rfl (by decide) rfl ?_
    refine e_goto (pc := 286) (tgt := 261) dX11_give_286 (by decide) ?_
    exact hv
set_option maxRecDepth 100000 in
set_option maxHeartbeats 4000000 in
theorem tX11_give_124 (X : Cx) (A : Int64 → Wd → Prop) (l0 : Nat) (l1 : Int32) (l2 : Int32) (l7 : Int64) (l9 : Int32) (w : Wd)
    (hv : wK w l0 = 12 ∧ (((wI w 11 38 l0) < l9) → jX11_give_261 X A l0 l7 1 w) ∧ ((¬ (wI w 11 38 l0) < l9) → wK w (wR w 11 31 l0) = 13 ∧ vp_in l9 (wL w (wR w 11 31 l0)) ∧ wK w (wR w 11 4 l0) = 13 ∧ vp_in (xI w (wR w 11 31 l0) l9.toNatClampNeg) (wL w (wR w 11 4 l0)) ∧ ((¬ (xI w (wR w 11 4 l0) (xI w (wR w 11 31 l0) l9.toNatClampNeg).toNatClampNeg) = l1) → jX11_give_124 X A l0 l1 l2 l7 (l9 + 1) w) ∧ (((xI w (wR w 11 4 l0) (xI w (wR w 11 31 l0) l9.toNatClampNeg).toNatClampNeg) = l1) → Ct X bX11_isPosted mX11_isPosted [vR l0, vI l9, vI l2] w (qI fun x9 w8 => ((¬ x9 = 0) → wK w8 l0 = 12 ∧ wK w8 (wR w8 11 31 l0) = 13 ∧ vp_in l9 (wL w8 (wR w8 11 31 l0)) ∧ wK w8 (wR w8 11 32 l0) = 13 ∧ vp_in l9 (wL w8 (wR w8 11 32 l0)) ∧ Ct X bX11_gotBy mX11_gotBy [vR l0, vI (xI w8 (wR w8 11 31 l0) l9.toNatClampNeg)] w8 (qJ fun x17 w16 => wK w16 l0 = 12 ∧ wK w16 (wR w16 11 33 l0) = 14 ∧ vp_in l9 (wL w16 (wR w16 11 33 l0)) ∧ Ct X bX11_dueIn mX11_dueIn [vR l0, vI (xI w8 (wR w8 11 32 l0) l9.toNatClampNeg)] w16 (qJ fun x22 w21 => wK w21 l0 = 12 ∧ Ct X bX11_gotBy mX11_gotBy [vR l0, vI (xI w8 (wR w8 11 32 l0) l9.toNatClampNeg)] w21 (qJ fun x24 w23 => wK w23 l0 = 12 ∧ Ct X bX11_gives mX11_gives [vR l0, vI (xI w8 (wR w8 11 31 l0) l9.toNatClampNeg), vJ (if (if x22 < (xJ w16 (wR w16 11 33 l0) l9.toNatClampNeg) then x22 else (xJ w16 (wR w16 11 33 l0) l9.toNatClampNeg)) < x17 then (if x22 < (xJ w16 (wR w16 11 33 l0) l9.toNatClampNeg) then x22 else (xJ w16 (wR w16 11 33 l0) l9.toNatClampNeg)) else x17)] w23 (qV fun w26 => wK w26 l0 = 12 ∧ Ct X bX11_gives mX11_gives [vR l0, vI (xI w8 (wR w8 11 32 l0) l9.toNatClampNeg), vJ (if x24 < (if (if x22 < (xJ w16 (wR w16 11 33 l0) l9.toNatClampNeg) then x22 else (xJ w16 (wR w16 11 33 l0) l9.toNatClampNeg)) < x17 then (if x22 < (xJ w16 (wR w16 11 33 l0) l9.toNatClampNeg) then x22 else (xJ w16 (wR w16 11 33 l0) l9.toNatClampNeg)) else x17) then x24 else (if (if x22 < (xJ w16 (wR w16 11 33 l0) l9.toNatClampNeg) then x22 else (xJ w16 (wR w16 11 33 l0) l9.toNatClampNeg)) < x17 then (if x22 < (xJ w16 (wR w16 11 33 l0) l9.toNatClampNeg) then x22 else (xJ w16 (wR w16 11 33 l0) l9.toNatClampNeg)) else x17))] w26 (qV fun w29 => wK w29 l0 = 12 ∧ Ct X bX11_gets mX11_gets [vR l0, vI (xI w8 (wR w8 11 32 l0) l9.toNatClampNeg), vJ (if (if x22 < (xJ w16 (wR w16 11 33 l0) l9.toNatClampNeg) then x22 else (xJ w16 (wR w16 11 33 l0) l9.toNatClampNeg)) < x17 then (if x22 < (xJ w16 (wR w16 11 33 l0) l9.toNatClampNeg) then x22 else (xJ w16 (wR w16 11 33 l0) l9.toNatClampNeg)) else x17)] w29 (qV fun w32 => wK w32 l0 = 12 ∧ Ct X bX11_gets mX11_gets [vR l0, vI (xI w8 (wR w8 11 31 l0) l9.toNatClampNeg), vJ (if x24 < (if (if x22 < (xJ w16 (wR w16 11 33 l0) l9.toNatClampNeg) then x22 else (xJ w16 (wR w16 11 33 l0) l9.toNatClampNeg)) < x17 then (if x22 < (xJ w16 (wR w16 11 33 l0) l9.toNatClampNeg) then x22 else (xJ w16 (wR w16 11 33 l0) l9.toNatClampNeg)) else x17) then x24 else (if (if x22 < (xJ w16 (wR w16 11 33 l0) l9.toNatClampNeg) then x22 else (xJ w16 (wR w16 11 33 l0) l9.toNatClampNeg)) < x17 then (if x22 < (xJ w16 (wR w16 11 33 l0) l9.toNatClampNeg) then x22 else (xJ w16 (wR w16 11 33 l0) l9.toNatClampNeg)) else x17))] w32 (qV fun w35 => jX11_give_124 X A l0 l1 l2 l7 (l9 + 1) w35)))))))) ∧ ((x9 = 0) → jX11_give_124 X A l0 l1 l2 l7 (l9 + 1) w8))))) :
    jX11_give_124 X A l0 l1 l2 l7 l9 w := by
  refine e_iload (pc := 124) (i := 9) dX11_give_124 rfl ?_
  refine e_aload_n (pc := 126) (i := 0) dX11_give_126 rfl rfl ?_
  have k1 := hv.1
  replace hv := hv.2
  refine e_getI (pc := 127) dX11_give_127 fRX11_275 rfl k1 ?_
  refine e_icmp_gt (pc := 130) (tgt := 258) dX11_give_130 (by decide) (fun h2 => ?_) (fun h2 => ?_)
  · replace hv := hv.1 h2
    refine e_iconst (pc := 258) (v := 1) dX11_give_258 (by decide) ?_
    refine e_istore (pc := 259) (i := 9) (lv' := [(0, vR l0), (1, vI l1), (2, vI l2), (7, vJ l7), (9, vI 1)]) dX11_give_259 (by decide) rfl ?_
    exact EJ.drop [0, 7, 9] rfl hv
  · replace hv := hv.2 h2
    refine e_aload_n (pc := 133) (i := 0) dX11_give_133 rfl rfl ?_
    refine e_getR (pc := 134) dX11_give_134 fRX11_20 rfl k1 ?_
    refine e_aload_n (pc := 137) (i := 0) dX11_give_137 rfl rfl ?_
    refine e_getR (pc := 138) dX11_give_138 fRX11_99 rfl k1 ?_
    refine e_iload (pc := 141) (i := 9) dX11_give_141 rfl ?_
    have k3 := hv.1
    replace hv := hv.2
    have hi4 := hv.1
    replace hv := hv.2
    refine e_iald (pc := 143) dX11_give_143 k3 hi4 ?_
    have k5 := hv.1
    replace hv := hv.2
    have hi6 := hv.1
    replace hv := hv.2
    refine e_iald (pc := 144) dX11_give_144 k5 hi6 ?_
    refine e_iload_n (pc := 145) (i := 1) dX11_give_145 rfl rfl ?_
    refine e_icmp_ne (pc := 146) (tgt := 252) dX11_give_146 (by decide) (fun h7 => ?_) (fun h7 => ?_)
    · replace hv := hv.1 h7
      refine e_iinc (pc := 252) (v := l9 + 1) (lv' := [(0, vR l0), (1, vI l1), (2, vI l2), (7, vJ l7), (9, vI (l9 + 1))]) dX11_give_252 rfl rfl (by decide) rfl ?_
      refine e_goto (pc := 255) (tgt := 124) dX11_give_255 (by decide) ?_
      exact hv
    · replace hv := hv.2 h7
      refine e_aload_n (pc := 149) (i := 0) dX11_give_149 rfl rfl ?_
      refine e_iload (pc := 150) (i := 9) dX11_give_150 rfl ?_
      refine e_iload_n (pc := 152) (i := 2) dX11_give_152 rfl rfl ?_
      refine e_callVi (pc := 153) (ci := 11) (st := []) (rc' := 0) (rs' := 0) (B' := bX11_isPosted) [vI l9, vI l2] dX11_give_153 vRX11_322 kX11_isPosted (by decide) rfl k1 rfl rfl (Nat.le_of_ble_eq_true rfl) ⟨Nat.le_of_ble_eq_true rfl, Nat.le_of_ble_eq_true rfl⟩ rfl rfl hv (fun x9 w8 hv => ?_)
      refine e_if_ne (pc := 156) (tgt := 162) dX11_give_156 (by decide) (fun h10 => ?_) (fun h10 => ?_)
      · replace hv := hv.1 h10
        refine e_aload_n (pc := 162) (i := 0) dX11_give_162 rfl rfl ?_
        have k11 := hv.1
        replace hv := hv.2
        refine e_getR (pc := 163) dX11_give_163 fRX11_99 rfl k11 ?_
        refine e_iload (pc := 166) (i := 9) dX11_give_166 rfl ?_
        have k12 := hv.1
        replace hv := hv.2
        have hi13 := hv.1
        replace hv := hv.2
        refine e_iald (pc := 168) dX11_give_168 k12 hi13 ?_
        refine e_istore (pc := 169) (i := 10) (lv' := [(0, vR l0), (1, vI l1), (2, vI l2), (7, vJ l7), (9, vI l9), (10, vI (xI w8 (wR w8 11 31 l0) l9.toNatClampNeg))]) dX11_give_169 (by decide) rfl ?_
        refine e_aload_n (pc := 171) (i := 0) dX11_give_171 rfl rfl ?_
        refine e_getR (pc := 172) dX11_give_172 fRX11_102 rfl k11 ?_
        refine e_iload (pc := 175) (i := 9) dX11_give_175 rfl ?_
        have k14 := hv.1
        replace hv := hv.2
        have hi15 := hv.1
        replace hv := hv.2
        refine e_iald (pc := 177) dX11_give_177 k14 hi15 ?_
        refine e_istore (pc := 178) (i := 11) (lv' := [(0, vR l0), (1, vI l1), (2, vI l2), (7, vJ l7), (9, vI l9), (10, vI (xI w8 (wR w8 11 31 l0) l9.toNatClampNeg)), (11, vI (xI w8 (wR w8 11 32 l0) l9.toNatClampNeg))]) dX11_give_178 (by decide) rfl ?_
        refine e_aload_n (pc := 180) (i := 0) dX11_give_180 rfl rfl ?_
        refine e_iload (pc := 181) (i := 10) dX11_give_181 rfl ?_
        refine e_callVj (pc := 183) (ci := 11) (st := []) (rc' := 0) (rs' := 0) (B' := bX11_gotBy) [vI (xI w8 (wR w8 11 31 l0) l9.toNatClampNeg)] dX11_give_183 vRX11_340 kX11_gotBy (by decide) rfl k11 rfl rfl (Nat.le_of_ble_eq_true rfl) ⟨Nat.le_of_ble_eq_true rfl, Nat.le_of_ble_eq_true rfl⟩ rfl rfl hv (fun x17 w16 hv => ?_)
        refine e_aload_n (pc := 186) (i := 0) dX11_give_186 rfl rfl ?_
        have k18 := hv.1
        replace hv := hv.2
        refine e_getR (pc := 187) dX11_give_187 fRX11_105 rfl k18 ?_
        refine e_iload (pc := 190) (i := 9) dX11_give_190 rfl ?_
        have k19 := hv.1
        replace hv := hv.2
        have hi20 := hv.1
        replace hv := hv.2
        refine e_lald (pc := 192) dX11_give_192 k19 hi20 ?_
        refine e_aload_n (pc := 193) (i := 0) dX11_give_193 rfl rfl ?_
        refine e_iload (pc := 194) (i := 11) dX11_give_194 rfl ?_
        refine e_callVj (pc := 196) (ci := 11) (st := [vJ (xJ w16 (wR w16 11 33 l0) l9.toNatClampNeg), vJ x17]) (rc' := 0) (rs' := 0) (B' := bX11_dueIn) [vI (xI w8 (wR w8 11 32 l0) l9.toNatClampNeg)] dX11_give_196 vRX11_337 kX11_dueIn (by decide) rfl k18 rfl rfl (Nat.le_of_ble_eq_true rfl) ⟨Nat.le_of_ble_eq_true rfl, Nat.le_of_ble_eq_true rfl⟩ rfl rfl hv (fun x22 w21 hv => ?_)
        refine e_mminJ (pc := 199) dX11_give_199 (tb_a5 138 (by decide +kernel) rfl) (Nat.le_of_ble_eq_true rfl) (Nat.le_of_ble_eq_true rfl) ?_
        refine e_mminJ (pc := 202) dX11_give_202 (tb_a5 138 (by decide +kernel) rfl) (Nat.le_of_ble_eq_true rfl) (Nat.le_of_ble_eq_true rfl) ?_
        refine e_lstore (pc := 205) (i := 12) (lv' := [(0, vR l0), (1, vI l1), (2, vI l2), (7, vJ l7), (9, vI l9), (10, vI (xI w8 (wR w8 11 31 l0) l9.toNatClampNeg)), (11, vI (xI w8 (wR w8 11 32 l0) l9.toNatClampNeg)), (12, vJ (if (if x22 < (xJ w16 (wR w16 11 33 l0) l9.toNatClampNeg) then x22 else (xJ w16 (wR w16 11 33 l0) l9.toNatClampNeg)) < x17 then (if x22 < (xJ w16 (wR w16 11 33 l0) l9.toNatClampNeg) then x22 else (xJ w16 (wR w16 11 33 l0) l9.toNatClampNeg)) else x17))]) dX11_give_205 (by decide) rfl ?_
        refine e_lload (pc := 207) (i := 12) dX11_give_207 rfl ?_
        refine e_aload_n (pc := 209) (i := 0) dX11_give_209 rfl rfl ?_
        refine e_iload (pc := 210) (i := 11) dX11_give_210 rfl ?_
        have k25 := hv.1
        replace hv := hv.2
        refine e_callVj (pc := 212) (ci := 11) (st := [vJ (if (if x22 < (xJ w16 (wR w16 11 33 l0) l9.toNatClampNeg) then x22 else (xJ w16 (wR w16 11 33 l0) l9.toNatClampNeg)) < x17 then (if x22 < (xJ w16 (wR w16 11 33 l0) l9.toNatClampNeg) then x22 else (xJ w16 (wR w16 11 33 l0) l9.toNatClampNeg)) else x17)]) (rc' := 0) (rs' := 0) (B' := bX11_gotBy) [vI (xI w8 (wR w8 11 32 l0) l9.toNatClampNeg)] dX11_give_212 vRX11_340 kX11_gotBy (by decide) rfl k25 rfl rfl (Nat.le_of_ble_eq_true rfl) ⟨Nat.le_of_ble_eq_true rfl, Nat.le_of_ble_eq_true rfl⟩ rfl rfl hv (fun x24 w23 hv => ?_)
        refine e_mminJ (pc := 215) dX11_give_215 (tb_a5 138 (by decide +kernel) rfl) (Nat.le_of_ble_eq_true rfl) (Nat.le_of_ble_eq_true rfl) ?_
        refine e_lstore (pc := 218) (i := 14) (lv' := [(0, vR l0), (1, vI l1), (2, vI l2), (7, vJ l7), (9, vI l9), (10, vI (xI w8 (wR w8 11 31 l0) l9.toNatClampNeg)), (11, vI (xI w8 (wR w8 11 32 l0) l9.toNatClampNeg)), (12, vJ (if (if x22 < (xJ w16 (wR w16 11 33 l0) l9.toNatClampNeg) then x22 else (xJ w16 (wR w16 11 33 l0) l9.toNatClampNeg)) < x17 then (if x22 < (xJ w16 (wR w16 11 33 l0) l9.toNatClampNeg) then x22 else (xJ w16 (wR w16 11 33 l0) l9.toNatClampNeg)) else x17)), (14, vJ (if x24 < (if (if x22 < (xJ w16 (wR w16 11 33 l0) l9.toNatClampNeg) then x22 else (xJ w16 (wR w16 11 33 l0) l9.toNatClampNeg)) < x17 then (if x22 < (xJ w16 (wR w16 11 33 l0) l9.toNatClampNeg) then x22 else (xJ w16 (wR w16 11 33 l0) l9.toNatClampNeg)) else x17) then x24 else (if (if x22 < (xJ w16 (wR w16 11 33 l0) l9.toNatClampNeg) then x22 else (xJ w16 (wR w16 11 33 l0) l9.toNatClampNeg)) < x17 then (if x22 < (xJ w16 (wR w16 11 33 l0) l9.toNatClampNeg) then x22 else (xJ w16 (wR w16 11 33 l0) l9.toNatClampNeg)) else x17)))]) dX11_give_218 (by decide) rfl ?_
        refine e_aload_n (pc := 220) (i := 0) dX11_give_220 rfl rfl ?_
        refine e_iload (pc := 221) (i := 10) dX11_give_221 rfl ?_
        refine e_lload (pc := 223) (i := 12) dX11_give_223 rfl ?_
        have k28 := hv.1
        replace hv := hv.2
        refine e_callVv (pc := 225) (ci := 11) (st := []) (rc' := 0) (rs' := 0) (B' := bX11_gives) [vI (xI w8 (wR w8 11 31 l0) l9.toNatClampNeg), vJ (if (if x22 < (xJ w16 (wR w16 11 33 l0) l9.toNatClampNeg) then x22 else (xJ w16 (wR w16 11 33 l0) l9.toNatClampNeg)) < x17 then (if x22 < (xJ w16 (wR w16 11 33 l0) l9.toNatClampNeg) then x22 else (xJ w16 (wR w16 11 33 l0) l9.toNatClampNeg)) else x17)] dX11_give_225 vRX11_347 kX11_gives (by decide) rfl k28 rfl rfl (Nat.le_of_ble_eq_true rfl) ⟨Nat.le_of_ble_eq_true rfl, Nat.le_of_ble_eq_true rfl⟩ rfl rfl hv (fun w26 hv => ?_)
        refine e_aload_n (pc := 228) (i := 0) dX11_give_228 rfl rfl ?_
        refine e_iload (pc := 229) (i := 11) dX11_give_229 rfl ?_
        refine e_lload (pc := 231) (i := 14) dX11_give_231 rfl ?_
        have k31 := hv.1
        replace hv := hv.2
        refine e_callVv (pc := 233) (ci := 11) (st := []) (rc' := 0) (rs' := 0) (B' := bX11_gives) [vI (xI w8 (wR w8 11 32 l0) l9.toNatClampNeg), vJ (if x24 < (if (if x22 < (xJ w16 (wR w16 11 33 l0) l9.toNatClampNeg) then x22 else (xJ w16 (wR w16 11 33 l0) l9.toNatClampNeg)) < x17 then (if x22 < (xJ w16 (wR w16 11 33 l0) l9.toNatClampNeg) then x22 else (xJ w16 (wR w16 11 33 l0) l9.toNatClampNeg)) else x17) then x24 else (if (if x22 < (xJ w16 (wR w16 11 33 l0) l9.toNatClampNeg) then x22 else (xJ w16 (wR w16 11 33 l0) l9.toNatClampNeg)) < x17 then (if x22 < (xJ w16 (wR w16 11 33 l0) l9.toNatClampNeg) then x22 else (xJ w16 (wR w16 11 33 l0) l9.toNatClampNeg)) else x17))] dX11_give_233 vRX11_347 kX11_gives (by decide) rfl k31 rfl rfl (Nat.le_of_ble_eq_true rfl) ⟨Nat.le_of_ble_eq_true rfl, Nat.le_of_ble_eq_true rfl⟩ rfl rfl hv (fun w29 hv => ?_)
        refine e_aload_n (pc := 236) (i := 0) dX11_give_236 rfl rfl ?_
        refine e_iload (pc := 237) (i := 11) dX11_give_237 rfl ?_
        refine e_lload (pc := 239) (i := 12) dX11_give_239 rfl ?_
        have k34 := hv.1
        replace hv := hv.2
        refine e_callVv (pc := 241) (ci := 11) (st := []) (rc' := 0) (rs' := 0) (B' := bX11_gets) [vI (xI w8 (wR w8 11 32 l0) l9.toNatClampNeg), vJ (if (if x22 < (xJ w16 (wR w16 11 33 l0) l9.toNatClampNeg) then x22 else (xJ w16 (wR w16 11 33 l0) l9.toNatClampNeg)) < x17 then (if x22 < (xJ w16 (wR w16 11 33 l0) l9.toNatClampNeg) then x22 else (xJ w16 (wR w16 11 33 l0) l9.toNatClampNeg)) else x17)] dX11_give_241 vRX11_343 kX11_gets (by decide) rfl k34 rfl rfl (Nat.le_of_ble_eq_true rfl) ⟨Nat.le_of_ble_eq_true rfl, Nat.le_of_ble_eq_true rfl⟩ rfl rfl hv (fun w32 hv => ?_)
        refine e_aload_n (pc := 244) (i := 0) dX11_give_244 rfl rfl ?_
        refine e_iload (pc := 245) (i := 10) dX11_give_245 rfl ?_
        refine e_lload (pc := 247) (i := 14) dX11_give_247 rfl ?_
        have k37 := hv.1
        replace hv := hv.2
        refine e_callVv (pc := 249) (ci := 11) (st := []) (rc' := 0) (rs' := 0) (B' := bX11_gets) [vI (xI w8 (wR w8 11 31 l0) l9.toNatClampNeg), vJ (if x24 < (if (if x22 < (xJ w16 (wR w16 11 33 l0) l9.toNatClampNeg) then x22 else (xJ w16 (wR w16 11 33 l0) l9.toNatClampNeg)) < x17 then (if x22 < (xJ w16 (wR w16 11 33 l0) l9.toNatClampNeg) then x22 else (xJ w16 (wR w16 11 33 l0) l9.toNatClampNeg)) else x17) then x24 else (if (if x22 < (xJ w16 (wR w16 11 33 l0) l9.toNatClampNeg) then x22 else (xJ w16 (wR w16 11 33 l0) l9.toNatClampNeg)) < x17 then (if x22 < (xJ w16 (wR w16 11 33 l0) l9.toNatClampNeg) then x22 else (xJ w16 (wR w16 11 33 l0) l9.toNatClampNeg)) else x17))] dX11_give_249 vRX11_343 kX11_gets (by decide) rfl k37 rfl rfl (Nat.le_of_ble_eq_true rfl) ⟨Nat.le_of_ble_eq_true rfl, Nat.le_of_ble_eq_true rfl⟩ rfl rfl hv (fun w35 hv => ?_)
        refine e_iinc (pc := 252) (v := l9 + 1) (lv' := [(0, vR l0), (1, vI l1), (2, vI l2), (7, vJ l7), (9, vI (l9 + 1)), (10, vI (xI w8 (wR w8 11 31 l0) l9.toNatClampNeg)), (11, vI (xI w8 (wR w8 11 32 l0) l9.toNatClampNeg)), (12, vJ (if (if x22 < (xJ w16 (wR w16 11 33 l0) l9.toNatClampNeg) then x22 else (xJ w16 (wR w16 11 33 l0) l9.toNatClampNeg)) < x17 then (if x22 < (xJ w16 (wR w16 11 33 l0) l9.toNatClampNeg) then x22 else (xJ w16 (wR w16 11 33 l0) l9.toNatClampNeg)) else x17)), (14, vJ (if x24 < (if (if x22 < (xJ w16 (wR w16 11 33 l0) l9.toNatClampNeg) then x22 else (xJ w16 (wR w16 11 33 l0) l9.toNatClampNeg)) < x17 then (if x22 < (xJ w16 (wR w16 11 33 l0) l9.toNatClampNeg) then x22 else (xJ w16 (wR w16 11 33 l0) l9.toNatClampNeg)) else x17) then x24 else (if (if x22 < (xJ w16 (wR w16 11 33 l0) l9.toNatClampNeg) then x22 else (xJ w16 (wR w16 11 33 l0) l9.toNatClampNeg)) < x17 then (if x22 < (xJ w16 (wR w16 11 33 l0) l9.toNatClampNeg) then x22 else (xJ w16 (wR w16 11 33 l0) l9.toNatClampNeg)) else x17)))]) dX11_give_252 rfl rfl (by decide) rfl ?_
        refine e_goto (pc := 255) (tgt := 124) dX11_give_255 (by decide) ?_
        exact EJ.drop [0, 1, 2, 7, 9] rfl hv
      · replace hv := hv.2 h10
        refine e_goto (pc := 159) (tgt := 252) dX11_give_159 (by decide) ?_
        refine e_iinc (pc := 252) (v := l9 + 1) (lv' := [(0, vR l0), (1, vI l1), (2, vI l2), (7, vJ l7), (9, vI (l9 + 1))]) dX11_give_252 rfl rfl (by decide) rfl ?_
        refine e_goto (pc := 255) (tgt := 124) dX11_give_255 (by decide) ?_
        exact hv
set_option maxRecDepth 100000 in
set_option maxHeartbeats 4000000 in
theorem tX11_give_89 (X : Cx) (A : Int64 → Wd → Prop) (l0 : Nat) (l1 : Int32) (l2 : Int32) (l7 : Int64) (l9 : Int32) (l10 : Int32) (s0 : Int64) (w : Wd)
    (hv : wK w l0 = 12 ∧ Ct X bX11_gets mX11_gets [vR l0, vI l10, vJ (if s0 < l7 then s0 else l7)] w (qV fun w1 => jX11_give_24 X A l0 l1 l2 (l7 - (if s0 < l7 then s0 else l7)) (l9 + 1) w1)) :
    jX11_give_89 X A l0 l1 l2 l7 l9 l10 s0 w := by
  refine e_lstore (pc := 89) (i := 13) (lv' := [(0, vR l0), (1, vI l1), (2, vI l2), (7, vJ l7), (9, vI l9), (10, vI l10), (13, vJ s0)]) dX11_give_89 (by decide) rfl ?_
  refine e_lload (pc := 91) (i := 7) dX11_give_91 rfl ?_
  refine e_lload (pc := 93) (i := 13) dX11_give_93 rfl ?_
  refine e_mminJ (pc := 95) dX11_give_95 (tb_a5 138 (by decide +kernel) rfl) (Nat.le_of_ble_eq_true rfl) (Nat.le_of_ble_eq_true rfl) ?_
  refine e_lstore (pc := 98) (i := 15) (lv' := [(0, vR l0), (1, vI l1), (2, vI l2), (7, vJ l7), (9, vI l9), (10, vI l10), (13, vJ s0), (15, vJ (if s0 < l7 then s0 else l7))]) dX11_give_98 (by decide) rfl ?_
  refine e_aload_n (pc := 100) (i := 0) dX11_give_100 rfl rfl ?_
  refine e_iload (pc := 101) (i := 10) dX11_give_101 rfl ?_
  refine e_lload (pc := 103) (i := 15) dX11_give_103 rfl ?_
  have k3 := hv.1
  replace hv := hv.2
  refine e_callVv (pc := 105) (ci := 11) (st := []) (rc' := 0) (rs' := 0) (B' := bX11_gets) [vI l10, vJ (if s0 < l7 then s0 else l7)] dX11_give_105 vRX11_343 kX11_gets (by decide) rfl k3 rfl rfl (Nat.le_of_ble_eq_true rfl) ⟨Nat.le_of_ble_eq_true rfl, Nat.le_of_ble_eq_true rfl⟩ rfl rfl hv (fun w1 hv => ?_)
  refine e_lload (pc := 108) (i := 7) dX11_give_108 rfl ?_
  refine e_lload (pc := 110) (i := 15) dX11_give_110 rfl ?_
  refine e_lsub (pc := 112) dX11_give_112 ?_
  refine e_lstore (pc := 113) (i := 7) (lv' := [(0, vR l0), (1, vI l1), (2, vI l2), (7, vJ (l7 - (if s0 < l7 then s0 else l7))), (9, vI l9), (10, vI l10), (13, vJ s0), (15, vJ (if s0 < l7 then s0 else l7))]) dX11_give_113 (by decide) rfl ?_
  refine e_iinc (pc := 115) (v := l9 + 1) (lv' := [(0, vR l0), (1, vI l1), (2, vI l2), (7, vJ (l7 - (if s0 < l7 then s0 else l7))), (9, vI (l9 + 1)), (10, vI l10), (13, vJ s0), (15, vJ (if s0 < l7 then s0 else l7))]) dX11_give_115 rfl rfl (by decide) rfl ?_
  refine e_goto (pc := 118) (tgt := 24) dX11_give_118 (by decide) ?_
  exact EJ.drop [0, 1, 2, 7, 9] rfl hv
set_option maxRecDepth 100000 in
set_option maxHeartbeats 4000000 in
theorem tX11_give_24 (X : Cx) (A : Int64 → Wd → Prop) (l0 : Nat) (l1 : Int32) (l2 : Int32) (l7 : Int64) (l9 : Int32) (w : Wd)
    (hv : wK w l0 = 12 ∧ (((wI w 11 57 l0) ≤ l9) → jX11_give_124 X A l0 l1 l2 l7 1 w) ∧ ((¬ (wI w 11 57 l0) ≤ l9) → wK w (wR w 11 53 l0) = 13 ∧ vp_in l9 (wL w (wR w 11 53 l0)) ∧ Ct X bX11_dueIn mX11_dueIn [vR l0, vI (xI w (wR w 11 53 l0) l9.toNatClampNeg)] w (qJ fun x6 w5 => wK w5 l0 = 12 ∧ Ct X bX11_gotBy mX11_gotBy [vR l0, vI (xI w (wR w 11 53 l0) l9.toNatClampNeg)] w5 (qJ fun x8 w7 => wK w7 l0 = 12 ∧ wK w7 (wR w7 11 54 l0) = 15 ∧ vp_in l9 (wL w7 (wR w7 11 54 l0)) ∧ (((xI w7 (wR w7 11 54 l0) l9.toNatClampNeg) = 0) → jX11_give_89 X A l0 l1 l2 l7 l9 (xI w (wR w 11 53 l0) l9.toNatClampNeg) (x6 - x8) w7) ∧ ((¬ (xI w7 (wR w7 11 54 l0) l9.toNatClampNeg) = 0) → wK w7 (wR w7 11 25 l0) = 13 ∧ vp_in (xI w (wR w 11 53 l0) l9.toNatClampNeg) (wL w7 (wR w7 11 25 l0)) ∧ wK w7 (wR w7 11 8 l0) = 14 ∧ vp_in (xI w7 (wR w7 11 25 l0) (xI w (wR w 11 53 l0) l9.toNatClampNeg).toNatClampNeg) (wL w7 (wR w7 11 8 l0)) ∧ jX11_give_89 X A l0 l1 l2 l7 l9 (xI w (wR w 11 53 l0) l9.toNatClampNeg) (if (xJ w7 (wR w7 11 8 l0) (xI w7 (wR w7 11 25 l0) (xI w (wR w 11 53 l0) l9.toNatClampNeg).toNatClampNeg).toNatClampNeg) < (x6 - x8) then (xJ w7 (wR w7 11 8 l0) (xI w7 (wR w7 11 25 l0) (xI w (wR w 11 53 l0) l9.toNatClampNeg).toNatClampNeg).toNatClampNeg) else (x6 - x8)) w7))))) :
    jX11_give_24 X A l0 l1 l2 l7 l9 w := by
  refine e_iload (pc := 24) (i := 9) dX11_give_24 rfl ?_
  refine e_aload_n (pc := 26) (i := 0) dX11_give_26 rfl rfl ?_
  have k1 := hv.1
  replace hv := hv.2
  refine e_getI (pc := 27) dX11_give_27 fRX11_302 rfl k1 ?_
  refine e_icmp_ge (pc := 30) (tgt := 121) dX11_give_30 (by decide) (fun h2 => ?_) (fun h2 => ?_)
  · replace hv := hv.1 h2
    refine e_iconst (pc := 121) (v := 1) dX11_give_121 (by decide) ?_
    refine e_istore (pc := 122) (i := 9) (lv' := [(0, vR l0), (1, vI l1), (2, vI l2), (7, vJ l7), (9, vI 1)]) dX11_give_122 (by decide) rfl ?_
    exact hv
  · replace hv := hv.2 h2
    refine e_aload_n (pc := 33) (i := 0) dX11_give_33 rfl rfl ?_
    refine e_getR (pc := 34) dX11_give_34 fRX11_136 rfl k1 ?_
    refine e_iload (pc := 37) (i := 9) dX11_give_37 rfl ?_
    have k3 := hv.1
    replace hv := hv.2
    have hi4 := hv.1
    replace hv := hv.2
    refine e_iald (pc := 39) dX11_give_39 k3 hi4 ?_
    refine e_istore (pc := 40) (i := 10) (lv' := [(0, vR l0), (1, vI l1), (2, vI l2), (7, vJ l7), (9, vI l9), (10, vI (xI w (wR w 11 53 l0) l9.toNatClampNeg))]) dX11_give_40 (by decide) rfl ?_
    refine e_aload_n (pc := 42) (i := 0) dX11_give_42 rfl rfl ?_
    refine e_iload (pc := 43) (i := 10) dX11_give_43 rfl ?_
    refine e_callVj (pc := 45) (ci := 11) (st := []) (rc' := 0) (rs' := 0) (B' := bX11_dueIn) [vI (xI w (wR w 11 53 l0) l9.toNatClampNeg)] dX11_give_45 vRX11_337 kX11_dueIn (by decide) rfl k1 rfl rfl (Nat.le_of_ble_eq_true rfl) ⟨Nat.le_of_ble_eq_true rfl, Nat.le_of_ble_eq_true rfl⟩ rfl rfl hv (fun x6 w5 hv => ?_)
    refine e_aload_n (pc := 48) (i := 0) dX11_give_48 rfl rfl ?_
    refine e_iload (pc := 49) (i := 10) dX11_give_49 rfl ?_
    have k9 := hv.1
    replace hv := hv.2
    refine e_callVj (pc := 51) (ci := 11) (st := [vJ x6]) (rc' := 0) (rs' := 0) (B' := bX11_gotBy) [vI (xI w (wR w 11 53 l0) l9.toNatClampNeg)] dX11_give_51 vRX11_340 kX11_gotBy (by decide) rfl k9 rfl rfl (Nat.le_of_ble_eq_true rfl) ⟨Nat.le_of_ble_eq_true rfl, Nat.le_of_ble_eq_true rfl⟩ rfl rfl hv (fun x8 w7 hv => ?_)
    refine e_lsub (pc := 54) dX11_give_54 ?_
    refine e_lstore (pc := 55) (i := 11) (lv' := [(0, vR l0), (1, vI l1), (2, vI l2), (7, vJ l7), (9, vI l9), (10, vI (xI w (wR w 11 53 l0) l9.toNatClampNeg)), (11, vJ (x6 - x8))]) dX11_give_55 (by decide) rfl ?_
    refine e_aload_n (pc := 57) (i := 0) dX11_give_57 rfl rfl ?_
    have k10 := hv.1
    replace hv := hv.2
    refine e_getR (pc := 58) dX11_give_58 fRX11_139 rfl k10 ?_
    refine e_iload (pc := 61) (i := 9) dX11_give_61 rfl ?_
    have k11 := hv.1
    replace hv := hv.2
    have hi12 := hv.1
    replace hv := hv.2
    refine e_zald (pc := 63) dX11_give_63 k11 hi12 ?_
    refine e_if_eq (pc := 64) (tgt := 87) dX11_give_64 (by decide) (fun h13 => ?_) (fun h13 => ?_)
    · replace hv := hv.1 h13
      refine e_lload (pc := 87) (i := 11) dX11_give_87 rfl ?_
      exact EJ.drop [0, 1, 2, 7, 9, 10] rfl hv
    · replace hv := hv.2 h13
      refine e_lload (pc := 67) (i := 11) dX11_give_67 rfl ?_
      refine e_aload_n (pc := 69) (i := 0) dX11_give_69 rfl rfl ?_
      refine e_getR (pc := 70) dX11_give_70 fRX11_32 rfl k10 ?_
      refine e_aload_n (pc := 73) (i := 0) dX11_give_73 rfl rfl ?_
      refine e_getR (pc := 74) dX11_give_74 fRX11_84 rfl k10 ?_
      refine e_iload (pc := 77) (i := 10) dX11_give_77 rfl ?_
      have k14 := hv.1
      replace hv := hv.2
      have hi15 := hv.1
      replace hv := hv.2
      refine e_iald (pc := 79) dX11_give_79 k14 hi15 ?_
      have k16 := hv.1
      replace hv := hv.2
      have hi17 := hv.1
      replace hv := hv.2
      refine e_lald (pc := 80) dX11_give_80 k16 hi17 ?_
      refine e_mminJ (pc := 81) dX11_give_81 (tb_a5 138 (by decide +kernel) rfl) (Nat.le_of_ble_eq_true rfl) (Nat.le_of_ble_eq_true rfl) ?_
      refine e_goto (pc := 84) (tgt := 89) dX11_give_84 (by decide) ?_
      exact EJ.drop [0, 1, 2, 7, 9, 10] rfl hv
set_option maxRecDepth 100000 in
set_option maxHeartbeats 4000000 in
theorem oX11_give (X : Cx) (A : Int64 → Wd → Prop) (a0 : Nat) (a1 : Int32) (a2 : Int32) (a3 : Int64) (a5 : Int64) (w : Wd)
    (hv : wK w a0 = 12 ∧ Ct X bX11_now mX11_now [vR a0] w (qV fun w1 => wK w1 a0 = 12 ∧ Ct X bX11_orderOn mX11_orderOn [vR a0, vI a1, vI a2] w1 (qV fun w4 => wK w4 a0 = 12 ∧ Ct X bX11_prepare mX11_prepare [vR a0, vI a2] w4 (qV fun w7 => jX11_give_24 X A a0 a1 a2 (a3 - a5) 0 w7)))) :
    Ct X bX11_give mX11_give [vR a0, vI a1, vI a2, vJ a3, vJ a5] w (qJ A) := by
  refine Ct.of (lv := [(0, vR a0), (1, vI a1), (2, vI a2), (3, vJ a3), (5, vJ a5)]) rfl (Nat.le_of_ble_eq_true rfl) rfl ?_
  refine e_aload_n (pc := 0) (i := 0) dX11_give_0 rfl rfl ?_
  have k3 := hv.1
  replace hv := hv.2
  refine e_callVv (pc := 1) (ci := 11) (st := []) (rc' := 0) (rs' := 0) (B' := bX11_now) [] dX11_give_1 vRX11_257 kX11_now (by decide) rfl k3 rfl rfl (Nat.le_of_ble_eq_true rfl) ⟨Nat.le_of_ble_eq_true rfl, Nat.le_of_ble_eq_true rfl⟩ rfl rfl hv (fun w1 hv => ?_)
  refine e_aload_n (pc := 4) (i := 0) dX11_give_4 rfl rfl ?_
  refine e_iload_n (pc := 5) (i := 1) dX11_give_5 rfl rfl ?_
  refine e_iload_n (pc := 6) (i := 2) dX11_give_6 rfl rfl ?_
  have k6 := hv.1
  replace hv := hv.2
  refine e_callVv (pc := 7) (ci := 11) (st := []) (rc' := 0) (rs' := 0) (B' := bX11_orderOn) [vI a1, vI a2] dX11_give_7 vRX11_325 kX11_orderOn (by decide) rfl k6 rfl rfl (Nat.le_of_ble_eq_true rfl) ⟨Nat.le_of_ble_eq_true rfl, Nat.le_of_ble_eq_true rfl⟩ rfl rfl hv (fun w4 hv => ?_)
  refine e_aload_n (pc := 10) (i := 0) dX11_give_10 rfl rfl ?_
  refine e_iload_n (pc := 11) (i := 2) dX11_give_11 rfl rfl ?_
  have k9 := hv.1
  replace hv := hv.2
  refine e_callVv (pc := 12) (ci := 11) (st := []) (rc' := 0) (rs' := 0) (B' := bX11_prepare) [vI a2] dX11_give_12 vRX11_334 kX11_prepare (by decide) rfl k9 rfl rfl (Nat.le_of_ble_eq_true rfl) ⟨Nat.le_of_ble_eq_true rfl, Nat.le_of_ble_eq_true rfl⟩ rfl rfl hv (fun w7 hv => ?_)
  refine e_lload_n (pc := 15) (i := 3) dX11_give_15 rfl rfl ?_
  refine e_lload (pc := 16) (i := 5) dX11_give_16 rfl ?_
  refine e_lsub (pc := 18) dX11_give_18 ?_
  refine e_lstore (pc := 19) (i := 7) (lv' := [(0, vR a0), (1, vI a1), (2, vI a2), (3, vJ a3), (5, vJ a5), (7, vJ (a3 - a5))]) dX11_give_19 (by decide) rfl ?_
  refine e_iconst (pc := 21) (v := 0) dX11_give_21 (by decide) ?_
  refine e_istore (pc := 22) (i := 9) (lv' := [(0, vR a0), (1, vI a1), (2, vI a2), (3, vJ a3), (5, vJ a5), (7, vJ (a3 - a5)), (9, vI 0)]) dX11_give_22 (by decide) rfl ?_
  exact EJ.drop [0, 1, 2, 7, 9] rfl hv
set_option maxRecDepth 100000 in
set_option maxHeartbeats 4000000 in
theorem oX11_wrongSale (X : Cx) (A : Int32 → Wd → Prop) (a0 : Nat) (a1 : Int32) (a2 : Int32) (a3 : Int64) (a5 : Int64) (w : Wd)
    (hv : wK w a0 = 12 ∧ Ct X bX11_wrong mX11_wrong [vR a0, vI a1, vI a2] w (qI fun x2 w1 => ((x2 ≤ 0) → (((lg_cmp a3 0) < 0) → A 5 w1) ∧ ((¬ (lg_cmp a3 0) < 0) → ((0 < (lg_cmp a3 999999999999)) → A 5 w1) ∧ ((¬ 0 < (lg_cmp a3 999999999999)) → (((lg_cmp a5 0) < 0) → A 5 w1) ∧ ((¬ (lg_cmp a5 0) < 0) → ((0 < (lg_cmp a5 999999999999)) → A 5 w1) ∧ ((¬ 0 < (lg_cmp a5 999999999999)) → (((lg_cmp a5 a3) ≤ 0) → A 0 w1) ∧ ((¬ (lg_cmp a5 a3) ≤ 0) → A 5 w1)))))) ∧ ((¬ x2 ≤ 0) → A x2 w1))) :
    Ct X bX11_wrongSale mX11_wrongSale [vR a0, vI a1, vI a2, vJ a3, vJ a5] w (qI A) := by
  refine Ct.of (lv := [(0, vR a0), (1, vI a1), (2, vI a2), (3, vJ a3), (5, vJ a5)]) rfl (Nat.le_of_ble_eq_true rfl) rfl ?_
  refine e_aload_n (pc := 0) (i := 0) dX11_wrongSale_0 rfl rfl ?_
  refine e_iload_n (pc := 1) (i := 1) dX11_wrongSale_1 rfl rfl ?_
  refine e_iload_n (pc := 2) (i := 2) dX11_wrongSale_2 rfl rfl ?_
  have k3 := hv.1
  replace hv := hv.2
  refine e_callVi (pc := 3) (ci := 11) (st := []) (rc' := 0) (rs' := 0) (B' := bX11_wrong) [vI a1, vI a2] dX11_wrongSale_3 vRX11_235 kX11_wrong (by decide) rfl k3 rfl rfl (Nat.le_of_ble_eq_true rfl) ⟨Nat.le_of_ble_eq_true rfl, Nat.le_of_ble_eq_true rfl⟩ rfl rfl hv (fun x2 w1 hv => ?_)
  refine e_istore (pc := 6) (i := 7) (lv' := [(0, vR a0), (1, vI a1), (2, vI a2), (3, vJ a3), (5, vJ a5), (7, vI x2)]) dX11_wrongSale_6 (by decide) rfl ?_
  refine e_iload (pc := 8) (i := 7) dX11_wrongSale_8 rfl ?_
  refine e_if_le (pc := 10) (tgt := 16) dX11_wrongSale_10 (by decide) (fun h4 => ?_) (fun h4 => ?_)
  · replace hv := hv.1 h4
    refine e_lload_n (pc := 16) (i := 3) dX11_wrongSale_16 rfl rfl ?_
    refine e_lconst (pc := 17) (v := 0) dX11_wrongSale_17 (by decide) ?_
    refine e_lcmp (pc := 18) dX11_wrongSale_18 ?_
    refine e_if_lt (pc := 19) (tgt := 53) dX11_wrongSale_19 (by decide) (fun h5 => ?_) (fun h5 => ?_)
    · replace hv := hv.1 h5
      refine e_iconst (pc := 53) (v := 5) dX11_wrongSale_53 (by decide) ?_
      refine e_goto (pc := 54) (tgt := 58) dX11_wrongSale_54 (by decide) ?_
      exact e_ireturn (pc := 58) dX11_wrongSale_58 rfl ⟨_, rfl, hv⟩
    · replace hv := hv.2 h5
      refine e_lload_n (pc := 22) (i := 3) dX11_wrongSale_22 rfl rfl ?_
      refine e_ldc2 (pc := 23) (v := 999999999999) dX11_wrongSale_23 (tb_a5 176 (by decide +kernel) rfl) ?_
      refine e_lcmp (pc := 26) dX11_wrongSale_26 ?_
      refine e_if_gt (pc := 27) (tgt := 53) dX11_wrongSale_27 (by decide) (fun h6 => ?_) (fun h6 => ?_)
      · replace hv := hv.1 h6
        refine e_iconst (pc := 53) (v := 5) dX11_wrongSale_53 (by decide) ?_
        refine e_goto (pc := 54) (tgt := 58) dX11_wrongSale_54 (by decide) ?_
        exact e_ireturn (pc := 58) dX11_wrongSale_58 rfl ⟨_, rfl, hv⟩
      · replace hv := hv.2 h6
        refine e_lload (pc := 30) (i := 5) dX11_wrongSale_30 rfl ?_
        refine e_lconst (pc := 32) (v := 0) dX11_wrongSale_32 (by decide) ?_
        refine e_lcmp (pc := 33) dX11_wrongSale_33 ?_
        refine e_if_lt (pc := 34) (tgt := 53) dX11_wrongSale_34 (by decide) (fun h7 => ?_) (fun h7 => ?_)
        · replace hv := hv.1 h7
          refine e_iconst (pc := 53) (v := 5) dX11_wrongSale_53 (by decide) ?_
          refine e_goto (pc := 54) (tgt := 58) dX11_wrongSale_54 (by decide) ?_
          exact e_ireturn (pc := 58) dX11_wrongSale_58 rfl ⟨_, rfl, hv⟩
        · replace hv := hv.2 h7
          refine e_lload (pc := 37) (i := 5) dX11_wrongSale_37 rfl ?_
          refine e_ldc2 (pc := 39) (v := 999999999999) dX11_wrongSale_39 (tb_a5 176 (by decide +kernel) rfl) ?_
          refine e_lcmp (pc := 42) dX11_wrongSale_42 ?_
          refine e_if_gt (pc := 43) (tgt := 53) dX11_wrongSale_43 (by decide) (fun h8 => ?_) (fun h8 => ?_)
          · replace hv := hv.1 h8
            refine e_iconst (pc := 53) (v := 5) dX11_wrongSale_53 (by decide) ?_
            refine e_goto (pc := 54) (tgt := 58) dX11_wrongSale_54 (by decide) ?_
            exact e_ireturn (pc := 58) dX11_wrongSale_58 rfl ⟨_, rfl, hv⟩
          · replace hv := hv.2 h8
            refine e_lload (pc := 46) (i := 5) dX11_wrongSale_46 rfl ?_
            refine e_lload_n (pc := 48) (i := 3) dX11_wrongSale_48 rfl rfl ?_
            refine e_lcmp (pc := 49) dX11_wrongSale_49 ?_
            refine e_if_le (pc := 50) (tgt := 57) dX11_wrongSale_50 (by decide) (fun h9 => ?_) (fun h9 => ?_)
            · replace hv := hv.1 h9
              refine e_iconst (pc := 57) (v := 0) dX11_wrongSale_57 (by decide) ?_
              exact e_ireturn (pc := 58) dX11_wrongSale_58 rfl ⟨_, rfl, hv⟩
            · replace hv := hv.2 h9
              refine e_iconst (pc := 53) (v := 5) dX11_wrongSale_53 (by decide) ?_
              refine e_goto (pc := 54) (tgt := 58) dX11_wrongSale_54 (by decide) ?_
              exact e_ireturn (pc := 58) dX11_wrongSale_58 rfl ⟨_, rfl, hv⟩
  · replace hv := hv.2 h4
    refine e_iload (pc := 13) (i := 7) dX11_wrongSale_13 rfl ?_
    exact e_ireturn (pc := 15) dX11_wrongSale_15 rfl ⟨_, rfl, hv⟩
set_option maxRecDepth 100000 in
set_option maxHeartbeats 4000000 in
theorem oX11_sale (X : Cx) (A : Int64 → Wd → Prop) (a0 : Nat) (a1 : Int32) (a2 : Int32) (a3 : Int64) (a5 : Int64) (w : Wd)
    (hv : wK w a0 = 12 ∧ Ct X bX11_wrongSale mX11_wrongSale [vR a0, vI a1, vI a2, vJ a3, vJ a5] w (qI fun x2 w1 => ((x2 ≤ 0) → wK w1 a0 = 12 ∧ ∀ w6 : Wd, w6 = sI w1 11 41 a0 0 → Ct X bX11_give mX11_give [vR a0, vI a1, vI a2, vJ a3, vJ a5] w6 (qJ fun x8 w7 => A x8 w7)) ∧ ((¬ x2 ≤ 0) → wK w1 a0 = 12 ∧ Ct X bX11_refuse mX11_refuse [vR a0, vI x2] w1 (qI fun x11 w10 => A x11.toInt64 w10)))) :
    Ct X bX11_sale mX11_sale [vR a0, vI a1, vI a2, vJ a3, vJ a5] w (qJ A) := by
  refine Ct.of (lv := [(0, vR a0), (1, vI a1), (2, vI a2), (3, vJ a3), (5, vJ a5)]) rfl (Nat.le_of_ble_eq_true rfl) rfl ?_
  refine e_aload_n (pc := 0) (i := 0) dX11_sale_0 rfl rfl ?_
  refine e_iload_n (pc := 1) (i := 1) dX11_sale_1 rfl rfl ?_
  refine e_iload_n (pc := 2) (i := 2) dX11_sale_2 rfl rfl ?_
  refine e_lload_n (pc := 3) (i := 3) dX11_sale_3 rfl rfl ?_
  refine e_lload (pc := 4) (i := 5) dX11_sale_4 rfl ?_
  have k3 := hv.1
  replace hv := hv.2
  refine e_callVi (pc := 6) (ci := 11) (st := []) (rc' := 0) (rs' := 0) (B' := bX11_wrongSale) [vI a1, vI a2, vJ a3, vJ a5] dX11_sale_6 vRX11_354 kX11_wrongSale (by decide) rfl k3 rfl rfl (Nat.le_of_ble_eq_true rfl) ⟨Nat.le_of_ble_eq_true rfl, Nat.le_of_ble_eq_true rfl⟩ rfl rfl hv (fun x2 w1 hv => ?_)
  refine e_istore (pc := 9) (i := 7) (lv' := [(0, vR a0), (1, vI a1), (2, vI a2), (3, vJ a3), (5, vJ a5), (7, vI x2)]) dX11_sale_9 (by decide) rfl ?_
  refine e_iload (pc := 11) (i := 7) dX11_sale_11 rfl ?_
  refine e_if_le (pc := 13) (tgt := 24) dX11_sale_13 (by decide) (fun h4 => ?_) (fun h4 => ?_)
  · replace hv := hv.1 h4
    refine e_aload_n (pc := 24) (i := 0) dX11_sale_24 rfl rfl ?_
    refine e_iconst (pc := 25) (v := 0) dX11_sale_25 (by decide) ?_
    have k5 := hv.1
    replace hv := hv.2
    obtain ⟨w6, hw6⟩ : ∃ w6 : Wd, w6 = sI w1 11 41 a0 0 := ⟨_, rfl⟩
    replace hv := hv w6 hw6
    refine e_putI (pc := 26) dX11_sale_26 fRX11_163 (Or.inl rfl) rfl k5 ?_
    rw [← hw6]
    refine e_aload_n (pc := 29) (i := 0) dX11_sale_29 rfl rfl ?_
    refine e_iload_n (pc := 30) (i := 1) dX11_sale_30 rfl rfl ?_
    refine e_iload_n (pc := 31) (i := 2) dX11_sale_31 rfl rfl ?_
    refine e_lload_n (pc := 32) (i := 3) dX11_sale_32 rfl rfl ?_
    refine e_lload (pc := 33) (i := 5) dX11_sale_33 rfl ?_
    have k9 : wK w6 a0 = 12 := (by rw [hw6]; exact k5)
    refine e_callVj (pc := 35) (ci := 11) (st := []) (rc' := 0) (rs' := 0) (B' := bX11_give) [vI a1, vI a2, vJ a3, vJ a5] dX11_sale_35 vRX11_358 kX11_give (by decide) rfl k9 rfl rfl (Nat.le_of_ble_eq_true rfl) ⟨Nat.le_of_ble_eq_true rfl, Nat.le_of_ble_eq_true rfl⟩ rfl rfl hv (fun x8 w7 hv => ?_)
    exact e_lreturn (pc := 38) dX11_sale_38 rfl ⟨_, rfl, hv⟩
  · replace hv := hv.2 h4
    refine e_aload_n (pc := 16) (i := 0) dX11_sale_16 rfl rfl ?_
    refine e_iload (pc := 17) (i := 7) dX11_sale_17 rfl ?_
    have k12 := hv.1
    replace hv := hv.2
    refine e_callVi (pc := 19) (ci := 11) (st := []) (rc' := 0) (rs' := 0) (B' := bX11_refuse) [vI x2] dX11_sale_19 vRX11_231 kX11_refuse (by decide) rfl k12 rfl rfl (Nat.le_of_ble_eq_true rfl) ⟨Nat.le_of_ble_eq_true rfl, Nat.le_of_ble_eq_true rfl⟩ rfl rfl hv (fun x11 w10 hv => ?_)
    refine e_i2l (pc := 22) dX11_sale_22 ?_
    exact e_lreturn (pc := 23) dX11_sale_23 rfl ⟨_, rfl, hv⟩
abbrev jX11_sell_38 (X : Cx) (A : Int64 → Wd → Prop) (l0 : Nat) (l2 : Int32) (l8 : Int64) (l10 : Int32) (w : Wd) : Prop := EJ X mX11_sell (vw X bX11_sell (qJ A)) 0 0 38 [(0, vR l0), (2, vI l2), (8, vJ l8), (10, vI l10)] [] w
abbrev jX11_sell_120 (X : Cx) (A : Int64 → Wd → Prop) (l0 : Nat) (l2 : Int32) (l8 : Int64) (l10 : Int32) (l13 : Int32) (s0 : Int64) (s1 : Int32) (s2 : Nat) (w : Wd) : Prop := EJ X mX11_sell (vw X bX11_sell (qJ A)) 0 0 120 [(0, vR l0), (2, vI l2), (8, vJ l8), (10, vI l10), (13, vI l13)] [vJ s0, vI s1, vR s2] w
abbrev jX11_sell_153 (X : Cx) (A : Int64 → Wd → Prop) (l0 : Nat) (l2 : Int32) (l8 : Int64) (l10 : Int32) (s0 : Int32) (s1 : Int32) (s2 : Nat) (w : Wd) : Prop := EJ X mX11_sell (vw X bX11_sell (qJ A)) 0 0 153 [(0, vR l0), (2, vI l2), (8, vJ l8), (10, vI l10)] [vI s0, vI s1, vR s2] w
abbrev jX11_sell_195 (X : Cx) (A : Int64 → Wd → Prop) (l0 : Nat) (l8 : Int64) (l10 : Int32) (w : Wd) : Prop := EJ X mX11_sell (vw X bX11_sell (qJ A)) 0 0 195 [(0, vR l0), (8, vJ l8), (10, vI l10)] [] w
set_option maxRecDepth 100000 in
set_option maxHeartbeats 4000000 in
theorem tX11_sell_195 (X : Cx) (A : Int64 → Wd → Prop) (l0 : Nat) (l8 : Int64) (l10 : Int32) (w : Wd)
    (hv : wK w l0 = 12 ∧ (((wI w 11 58 l0) ≤ l10) → ∀ w3 : Wd, w3 = sI w 11 43 l0 ((wI w 11 43 l0) + 1) → ∀ w5 : Wd, w5 = sI w3 11 41 l0 0 → A l8 w5) ∧ ((¬ (wI w 11 58 l0) ≤ l10) → wK w (wR w 11 55 l0) = 13 ∧ vp_in l10 (wL w (wR w 11 55 l0)) ∧ wK w (wR w 11 17 l0) = 13 ∧ vp_in (xI w (wR w 11 55 l0) l10.toNatClampNeg) (wL w (wR w 11 17 l0)) ∧ ∀ w10 : Wd, w10 = yI w (wR w 11 17 l0) (xI w (wR w 11 55 l0) l10.toNatClampNeg).toNatClampNeg (wI w 11 39 l0) → jX11_sell_195 X A l0 l8 (l10 + 1) w10)) :
    jX11_sell_195 X A l0 l8 l10 w := by
  refine e_iload (pc := 195) (i := 10) dX11_sell_195 rfl ?_
  refine e_aload_n (pc := 197) (i := 0) dX11_sell_197 rfl rfl ?_
  have k1 := hv.1
  replace hv := hv.2
  refine e_getI (pc := 198) dX11_sell_198 fRX11_313 rfl k1 ?_
  refine e_icmp_ge (pc := 201) (tgt := 226) dX11_sell_201 (by decide) (fun h2 => ?_) (fun h2 => ?_)
  · replace hv := hv.1 h2
    refine e_aload_n (pc := 226) (i := 0) dX11_sell_226 rfl rfl ?_
    refine e_dup (pc := 227) dX11_sell_227 rfl ?_
    refine e_getI (pc := 228) dX11_sell_228 fRX11_362 rfl k1 ?_
    refine e_iconst (pc := 231) (v := 1) dX11_sell_231 (by decide) ?_
    refine e_iadd (pc := 232) dX11_sell_232 ?_
    obtain ⟨w3, hw3⟩ : ∃ w3 : Wd, w3 = sI w 11 43 l0 ((wI w 11 43 l0) + 1) := ⟨_, rfl⟩
    replace hv := hv w3 hw3
    refine e_putI (pc := 233) dX11_sell_233 fRX11_362 (Or.inl rfl) rfl k1 ?_
    rw [← hw3]
    refine e_aload_n (pc := 236) (i := 0) dX11_sell_236 rfl rfl ?_
    refine e_iconst (pc := 237) (v := 0) dX11_sell_237 (by decide) ?_
    have k4 : wK w3 l0 = 12 := (by rw [hw3]; exact k1)
    obtain ⟨w5, hw5⟩ : ∃ w5 : Wd, w5 = sI w3 11 41 l0 0 := ⟨_, rfl⟩
    replace hv := hv w5 hw5
    refine e_putI (pc := 238) dX11_sell_238 fRX11_163 (Or.inl rfl) rfl k4 ?_
    rw [← hw5]
    refine e_lload (pc := 241) (i := 8) dX11_sell_241 rfl ?_
    exact e_lreturn (pc := 243) dX11_sell_243 rfl ⟨_, rfl, hv⟩
  · replace hv := hv.2 h2
    refine e_aload_n (pc := 204) (i := 0) dX11_sell_204 rfl rfl ?_
    refine e_getR (pc := 205) dX11_sell_205 fRX11_60 rfl k1 ?_
    refine e_aload_n (pc := 208) (i := 0) dX11_sell_208 rfl rfl ?_
    refine e_getR (pc := 209) dX11_sell_209 fRX11_142 rfl k1 ?_
    refine e_iload (pc := 212) (i := 10) dX11_sell_212 rfl ?_
    have k6 := hv.1
    replace hv := hv.2
    have hi7 := hv.1
    replace hv := hv.2
    refine e_iald (pc := 214) dX11_sell_214 k6 hi7 ?_
    refine e_aload_n (pc := 215) (i := 0) dX11_sell_215 rfl rfl ?_
    refine e_getI (pc := 216) dX11_sell_216 fRX11_166 rfl k1 ?_
    have k8 := hv.1
    replace hv := hv.2
    have hi9 := hv.1
    replace hv := hv.2
    obtain ⟨w10, hw10⟩ : ∃ w10 : Wd, w10 = yI w (wR w 11 17 l0) (xI w (wR w 11 55 l0) l10.toNatClampNeg).toNatClampNeg (wI w 11 39 l0) := ⟨_, rfl⟩
    replace hv := hv w10 hw10
    refine e_iast (pc := 219) dX11_sell_219 k8 hi9 ?_
    rw [← hw10]
    refine e_iinc (pc := 220) (v := l10 + 1) (lv' := [(0, vR l0), (8, vJ l8), (10, vI (l10 + 1))]) dX11_sell_220 rfl rfl (by decide) rfl ?_
    refine e_goto (pc := 223) (tgt := 195) dX11_sell_223 (by decide) ?_
    exact hv
set_option maxRecDepth 100000 in
set_option maxHeartbeats 4000000 in
theorem tX11_sell_153 (X : Cx) (A : Int64 → Wd → Prop) (l0 : Nat) (l2 : Int32) (l8 : Int64) (l10 : Int32) (s0 : Int32) (s1 : Int32) (s2 : Nat) (w : Wd)
    (hv : wK w s2 = 15 ∧ vp_in s1 (wL w s2) ∧ ∀ w3 : Wd, w3 = yI w s2 s1.toNatClampNeg (vp_nar .boolean s0) → wK w3 l0 = 12 ∧ wK w3 (wR w3 11 28 l0) = 13 ∧ vp_in ((60 * l10) + l2) (wL w3 (wR w3 11 28 l0)) ∧ ∀ w7 : Wd, w7 = yI w3 (wR w3 11 28 l0) ((60 * l10) + l2).toNatClampNeg (wI w3 11 39 l0) → wK w7 (wR w7 11 29 l0) = 13 ∧ vp_in ((60 * l10) + l2) (wL w7 (wR w7 11 29 l0)) ∧ ∀ w11 : Wd, w11 = yI w7 (wR w7 11 29 l0) ((60 * l10) + l2).toNatClampNeg (wI w7 11 39 l0) → jX11_sell_38 X A l0 l2 l8 (l10 + 1) w11) :
    jX11_sell_153 X A l0 l2 l8 l10 s0 s1 s2 w := by
  have k1 := hv.1
  replace hv := hv.2
  have hi2 := hv.1
  replace hv := hv.2
  obtain ⟨w3, hw3⟩ : ∃ w3 : Wd, w3 = yI w s2 s1.toNatClampNeg (vp_nar .boolean s0) := ⟨_, rfl⟩
  replace hv := hv w3 hw3
  refine e_zast (pc := 153) dX11_sell_153 k1 hi2 ?_
  rw [← hw3]
  refine e_aload_n (pc := 154) (i := 0) dX11_sell_154 rfl rfl ?_
  have k4 := hv.1
  replace hv := hv.2
  refine e_getR (pc := 155) dX11_sell_155 fRX11_93 rfl k4 ?_
  refine e_bipush (pc := 158) (v := 60) dX11_sell_158 (by decide) ?_
  refine e_iload (pc := 160) (i := 10) dX11_sell_160 rfl ?_
  refine e_imul (pc := 162) dX11_sell_162 ?_
  refine e_iload_n (pc := 163) (i := 2) dX11_sell_163 rfl rfl ?_
  refine e_iadd (pc := 164) dX11_sell_164 ?_
  refine e_aload_n (pc := 165) (i := 0) dX11_sell_165 rfl rfl ?_
  refine e_getI (pc := 166) dX11_sell_166 fRX11_166 rfl k4 ?_
  have k5 := hv.1
  replace hv := hv.2
  have hi6 := hv.1
  replace hv := hv.2
  obtain ⟨w7, hw7⟩ : ∃ w7 : Wd, w7 = yI w3 (wR w3 11 28 l0) ((60 * l10) + l2).toNatClampNeg (wI w3 11 39 l0) := ⟨_, rfl⟩
  replace hv := hv w7 hw7
  refine e_iast (pc := 169) dX11_sell_169 k5 hi6 ?_
  rw [← hw7]
  refine e_aload_n (pc := 170) (i := 0) dX11_sell_170 rfl rfl ?_
  have k8 : wK w7 l0 = 12 := (by rw [hw7]; exact k4)
  refine e_getR (pc := 171) dX11_sell_171 fRX11_96 rfl k8 ?_
  refine e_bipush (pc := 174) (v := 60) dX11_sell_174 (by decide) ?_
  refine e_iload (pc := 176) (i := 10) dX11_sell_176 rfl ?_
  refine e_imul (pc := 178) dX11_sell_178 ?_
  refine e_iload_n (pc := 179) (i := 2) dX11_sell_179 rfl rfl ?_
  refine e_iadd (pc := 180) dX11_sell_180 ?_
  refine e_aload_n (pc := 181) (i := 0) dX11_sell_181 rfl rfl ?_
  refine e_getI (pc := 182) dX11_sell_182 fRX11_166 rfl k8 ?_
  have k9 := hv.1
  replace hv := hv.2
  have hi10 := hv.1
  replace hv := hv.2
  obtain ⟨w11, hw11⟩ : ∃ w11 : Wd, w11 = yI w7 (wR w7 11 29 l0) ((60 * l10) + l2).toNatClampNeg (wI w7 11 39 l0) := ⟨_, rfl⟩
  replace hv := hv w11 hw11
  refine e_iast (pc := 185) dX11_sell_185 k9 hi10 ?_
  rw [← hw11]
  refine e_iinc (pc := 186) (v := l10 + 1) (lv' := [(0, vR l0), (2, vI l2), (8, vJ l8), (10, vI (l10 + 1))]) dX11_sell_186 rfl rfl (by decide) rfl ?_
  refine e_goto (pc := 189) (tgt := 38) dX11_sell_189 (by decide) ?_
  exact hv
set_option maxRecDepth 100000 in
set_option maxHeartbeats 4000000 in
theorem tX11_sell_120 (X : Cx) (A : Int64 → Wd → Prop) (l0 : Nat) (l2 : Int32) (l8 : Int64) (l10 : Int32) (l13 : Int32) (s0 : Int64) (s1 : Int32) (s2 : Nat) (w : Wd)
    (hv : wK w s2 = 14 ∧ vp_in s1 (wL w s2) ∧ ∀ w3 : Wd, w3 = yJ w s2 s1.toNatClampNeg s0 → wK w3 l0 = 12 ∧ wK w3 (wR w3 11 18 l0) = 15 ∧ vp_in l13 (wL w3 (wR w3 11 18 l0)) ∧ ((¬ (xI w3 (wR w3 11 18 l0) l13.toNatClampNeg) = 0) → jX11_sell_153 X A l0 l2 l8 l10 1 l13 (wR w3 11 18 l0) w3) ∧ (((xI w3 (wR w3 11 18 l0) l13.toNatClampNeg) = 0) → wK w3 (wR w3 11 3 l0) = 13 ∧ vp_in l10 (wL w3 (wR w3 11 3 l0)) ∧ ((¬ (xI w3 (wR w3 11 3 l0) l10.toNatClampNeg) = 4) → jX11_sell_153 X A l0 l2 l8 l10 0 l13 (wR w3 11 18 l0) w3) ∧ (((xI w3 (wR w3 11 3 l0) l10.toNatClampNeg) = 4) → jX11_sell_153 X A l0 l2 l8 l10 1 l13 (wR w3 11 18 l0) w3))) :
    jX11_sell_120 X A l0 l2 l8 l10 l13 s0 s1 s2 w := by
  have k1 := hv.1
  replace hv := hv.2
  have hi2 := hv.1
  replace hv := hv.2
  obtain ⟨w3, hw3⟩ : ∃ w3 : Wd, w3 = yJ w s2 s1.toNatClampNeg s0 := ⟨_, rfl⟩
  replace hv := hv w3 hw3
  refine e_last (pc := 120) dX11_sell_120 k1 hi2 ?_
  rw [← hw3]
  refine e_aload_n (pc := 121) (i := 0) dX11_sell_121 rfl rfl ?_
  have k4 := hv.1
  replace hv := hv.2
  refine e_getR (pc := 122) dX11_sell_122 fRX11_63 rfl k4 ?_
  refine e_iload (pc := 125) (i := 13) dX11_sell_125 rfl ?_
  refine e_aload_n (pc := 127) (i := 0) dX11_sell_127 rfl rfl ?_
  refine e_getR (pc := 128) dX11_sell_128 fRX11_63 rfl k4 ?_
  refine e_iload (pc := 131) (i := 13) dX11_sell_131 rfl ?_
  have k5 := hv.1
  replace hv := hv.2
  have hi6 := hv.1
  replace hv := hv.2
  refine e_zald (pc := 133) dX11_sell_133 k5 hi6 ?_
  refine e_if_ne (pc := 134) (tgt := 148) dX11_sell_134 (by decide) (fun h7 => ?_) (fun h7 => ?_)
  · replace hv := hv.1 h7
    refine e_iconst (pc := 148) (v := 1) dX11_sell_148 (by decide) ?_
    refine e_goto (pc := 149) (tgt := 153) dX11_sell_149 (by decide) ?_
    exact EJ.drop [0, 2, 8, 10] rfl hv
  · replace hv := hv.2 h7
    refine e_aload_n (pc := 137) (i := 0) dX11_sell_137 rfl rfl ?_
    refine e_getR (pc := 138) dX11_sell_138 fRX11_17 rfl k4 ?_
    refine e_iload (pc := 141) (i := 10) dX11_sell_141 rfl ?_
    have k8 := hv.1
    replace hv := hv.2
    have hi9 := hv.1
    replace hv := hv.2
    refine e_iald (pc := 143) dX11_sell_143 k8 hi9 ?_
    refine e_iconst (pc := 144) (v := 4) dX11_sell_144 (by decide) ?_
    refine e_icmp_ne (pc := 145) (tgt := 152) dX11_sell_145 (by decide) (fun h10 => ?_) (fun h10 => ?_)
    · replace hv := hv.1 h10
      refine e_iconst (pc := 152) (v := 0) dX11_sell_152 (by decide) ?_
      exact EJ.drop [0, 2, 8, 10] rfl hv
    · replace hv := hv.2 h10
      refine e_iconst (pc := 148) (v := 1) dX11_sell_148 (by decide) ?_
      refine e_goto (pc := 149) (tgt := 153) dX11_sell_149 (by decide) ?_
      exact EJ.drop [0, 2, 8, 10] rfl hv
set_option maxRecDepth 100000 in
set_option maxHeartbeats 4000000 in
theorem tX11_sell_38 (X : Cx) (A : Int64 → Wd → Prop) (l0 : Nat) (l2 : Int32) (l8 : Int64) (l10 : Int32) (w : Wd)
    (hv : wK w l0 = 12 ∧ (((wI w 11 30 l0) < l10) → jX11_sell_195 X A l0 l8 0 w) ∧ ((¬ (wI w 11 30 l0) < l10) → wK w (wR w 11 61 l0) = 15 ∧ vp_in l10 (wL w (wR w 11 61 l0)) ∧ ((¬ (xI w (wR w 11 61 l0) l10.toNatClampNeg) = 0) → wK w (wR w 11 60 l0) = 14 ∧ vp_in l10 (wL w (wR w 11 60 l0)) ∧ wK w (wR w 11 59 l0) = 14 ∧ vp_in l10 (wL w (wR w 11 59 l0)) ∧ wK w (wR w 11 5 l0) = 13 ∧ vp_in l10 (wL w (wR w 11 5 l0)) ∧ wK w (wR w 11 3 l0) = 13 ∧ vp_in l10 (wL w (wR w 11 3 l0)) ∧ ((¬ (xI w (wR w 11 3 l0) l10.toNatClampNeg) = 4) → wK w (wR w 11 8 l0) = 14 ∧ vp_in l10 (wL w (wR w 11 8 l0)) ∧ jX11_sell_120 X A l0 l2 l8 l10 (xI w (wR w 11 5 l0) l10.toNatClampNeg) (if ((xJ w (wR w 11 60 l0) l10.toNatClampNeg) - (xJ w (wR w 11 59 l0) l10.toNatClampNeg)) < (xJ w (wR w 11 8 l0) l10.toNatClampNeg) then ((xJ w (wR w 11 60 l0) l10.toNatClampNeg) - (xJ w (wR w 11 59 l0) l10.toNatClampNeg)) else (xJ w (wR w 11 8 l0) l10.toNatClampNeg)) l10 (wR w 11 8 l0) w) ∧ (((xI w (wR w 11 3 l0) l10.toNatClampNeg) = 4) → jX11_sell_120 X A l0 l2 l8 l10 (xI w (wR w 11 5 l0) l10.toNatClampNeg) ((xJ w (wR w 11 60 l0) l10.toNatClampNeg) - (xJ w (wR w 11 59 l0) l10.toNatClampNeg)) l10 (wR w 11 8 l0) w)) ∧ (((xI w (wR w 11 61 l0) l10.toNatClampNeg) = 0) → jX11_sell_38 X A l0 l2 l8 (l10 + 1) w))) :
    jX11_sell_38 X A l0 l2 l8 l10 w := by
  refine e_iload (pc := 38) (i := 10) dX11_sell_38 rfl ?_
  refine e_aload_n (pc := 40) (i := 0) dX11_sell_40 rfl rfl ?_
  have k1 := hv.1
  replace hv := hv.2
  refine e_getI (pc := 41) dX11_sell_41 fRX11_169 rfl k1 ?_
  refine e_icmp_gt (pc := 44) (tgt := 192) dX11_sell_44 (by decide) (fun h2 => ?_) (fun h2 => ?_)
  · replace hv := hv.1 h2
    refine e_iconst (pc := 192) (v := 0) dX11_sell_192 (by decide) ?_
    refine e_istore (pc := 193) (i := 10) (lv' := [(0, vR l0), (2, vI l2), (8, vJ l8), (10, vI 0)]) dX11_sell_193 (by decide) rfl ?_
    exact EJ.drop [0, 8, 10] rfl hv
  · replace hv := hv.2 h2
    refine e_aload_n (pc := 47) (i := 0) dX11_sell_47 rfl rfl ?_
    refine e_getR (pc := 48) dX11_sell_48 fRX11_154 rfl k1 ?_
    refine e_iload (pc := 51) (i := 10) dX11_sell_51 rfl ?_
    have k3 := hv.1
    replace hv := hv.2
    have hi4 := hv.1
    replace hv := hv.2
    refine e_zald (pc := 53) dX11_sell_53 k3 hi4 ?_
    refine e_if_ne (pc := 54) (tgt := 60) dX11_sell_54 (by decide) (fun h5 => ?_) (fun h5 => ?_)
    · replace hv := hv.1 h5
      refine e_aload_n (pc := 60) (i := 0) dX11_sell_60 rfl rfl ?_
      refine e_getR (pc := 61) dX11_sell_61 fRX11_151 rfl k1 ?_
      refine e_iload (pc := 64) (i := 10) dX11_sell_64 rfl ?_
      have k6 := hv.1
      replace hv := hv.2
      have hi7 := hv.1
      replace hv := hv.2
      refine e_lald (pc := 66) dX11_sell_66 k6 hi7 ?_
      refine e_aload_n (pc := 67) (i := 0) dX11_sell_67 rfl rfl ?_
      refine e_getR (pc := 68) dX11_sell_68 fRX11_148 rfl k1 ?_
      refine e_iload (pc := 71) (i := 10) dX11_sell_71 rfl ?_
      have k8 := hv.1
      replace hv := hv.2
      have hi9 := hv.1
      replace hv := hv.2
      refine e_lald (pc := 73) dX11_sell_73 k8 hi9 ?_
      refine e_lsub (pc := 74) dX11_sell_74 ?_
      refine e_lstore (pc := 75) (i := 11) (lv' := [(0, vR l0), (2, vI l2), (8, vJ l8), (10, vI l10), (11, vJ ((xJ w (wR w 11 60 l0) l10.toNatClampNeg) - (xJ w (wR w 11 59 l0) l10.toNatClampNeg)))]) dX11_sell_75 (by decide) rfl ?_
      refine e_aload_n (pc := 77) (i := 0) dX11_sell_77 rfl rfl ?_
      refine e_getR (pc := 78) dX11_sell_78 fRX11_23 rfl k1 ?_
      refine e_iload (pc := 81) (i := 10) dX11_sell_81 rfl ?_
      have k10 := hv.1
      replace hv := hv.2
      have hi11 := hv.1
      replace hv := hv.2
      refine e_iald (pc := 83) dX11_sell_83 k10 hi11 ?_
      refine e_istore (pc := 84) (i := 13) (lv' := [(0, vR l0), (2, vI l2), (8, vJ l8), (10, vI l10), (11, vJ ((xJ w (wR w 11 60 l0) l10.toNatClampNeg) - (xJ w (wR w 11 59 l0) l10.toNatClampNeg))), (13, vI (xI w (wR w 11 5 l0) l10.toNatClampNeg))]) dX11_sell_84 (by decide) rfl ?_
      refine e_aload_n (pc := 86) (i := 0) dX11_sell_86 rfl rfl ?_
      refine e_getR (pc := 87) dX11_sell_87 fRX11_32 rfl k1 ?_
      refine e_iload (pc := 90) (i := 10) dX11_sell_90 rfl ?_
      refine e_aload_n (pc := 92) (i := 0) dX11_sell_92 rfl rfl ?_
      refine e_getR (pc := 93) dX11_sell_93 fRX11_17 rfl k1 ?_
      refine e_iload (pc := 96) (i := 10) dX11_sell_96 rfl ?_
      have k12 := hv.1
      replace hv := hv.2
      have hi13 := hv.1
      replace hv := hv.2
      refine e_iald (pc := 98) dX11_sell_98 k12 hi13 ?_
      refine e_iconst (pc := 99) (v := 4) dX11_sell_99 (by decide) ?_
      refine e_icmp_ne (pc := 100) (tgt := 108) dX11_sell_100 (by decide) (fun h14 => ?_) (fun h14 => ?_)
      · replace hv := hv.1 h14
        refine e_aload_n (pc := 108) (i := 0) dX11_sell_108 rfl rfl ?_
        refine e_getR (pc := 109) dX11_sell_109 fRX11_32 rfl k1 ?_
        refine e_iload (pc := 112) (i := 10) dX11_sell_112 rfl ?_
        have k15 := hv.1
        replace hv := hv.2
        have hi16 := hv.1
        replace hv := hv.2
        refine e_lald (pc := 114) dX11_sell_114 k15 hi16 ?_
        refine e_lload (pc := 115) (i := 11) dX11_sell_115 rfl ?_
        refine e_mminJ (pc := 117) dX11_sell_117 (tb_a5 138 (by decide +kernel) rfl) (Nat.le_of_ble_eq_true rfl) (Nat.le_of_ble_eq_true rfl) ?_
        exact EJ.drop [0, 2, 8, 10, 13] rfl hv
      · replace hv := hv.2 h14
        refine e_lload (pc := 103) (i := 11) dX11_sell_103 rfl ?_
        refine e_goto (pc := 105) (tgt := 120) dX11_sell_105 (by decide) ?_
        exact EJ.drop [0, 2, 8, 10, 13] rfl hv
    · replace hv := hv.2 h5
      refine e_goto (pc := 57) (tgt := 186) dX11_sell_57 (by decide) ?_
      refine e_iinc (pc := 186) (v := l10 + 1) (lv' := [(0, vR l0), (2, vI l2), (8, vJ l8), (10, vI (l10 + 1))]) dX11_sell_186 rfl rfl (by decide) rfl ?_
      refine e_goto (pc := 189) (tgt := 38) dX11_sell_189 (by decide) ?_
      exact hv
set_option maxRecDepth 100000 in
set_option maxHeartbeats 4000000 in
theorem oX11_sell (X : Cx) (A : Int64 → Wd → Prop) (a0 : Nat) (a1 : Int32) (a2 : Int32) (a3 : Int64) (a5 : Int64) (w : Wd)
    (hv : wK w a0 = 12 ∧ Ct X bX11_wrongSale mX11_wrongSale [vR a0, vI a1, vI a2, vJ a3, vJ a5] w (qI fun x2 w1 => ((x2 ≤ 0) → wK w1 a0 = 12 ∧ Ct X bX11_give mX11_give [vR a0, vI a1, vI a2, vJ a3, vJ a5] w1 (qJ fun x6 w5 => jX11_sell_38 X A a0 a2 x6 1 w5)) ∧ ((¬ x2 ≤ 0) → wK w1 a0 = 12 ∧ Ct X bX11_refuse mX11_refuse [vR a0, vI x2] w1 (qI fun x9 w8 => A x9.toInt64 w8)))) :
    Ct X bX11_sell mX11_sell [vR a0, vI a1, vI a2, vJ a3, vJ a5] w (qJ A) := by
  refine Ct.of (lv := [(0, vR a0), (1, vI a1), (2, vI a2), (3, vJ a3), (5, vJ a5)]) rfl (Nat.le_of_ble_eq_true rfl) rfl ?_
  refine e_aload_n (pc := 0) (i := 0) dX11_sell_0 rfl rfl ?_
  refine e_iload_n (pc := 1) (i := 1) dX11_sell_1 rfl rfl ?_
  refine e_iload_n (pc := 2) (i := 2) dX11_sell_2 rfl rfl ?_
  refine e_lload_n (pc := 3) (i := 3) dX11_sell_3 rfl rfl ?_
  refine e_lload (pc := 4) (i := 5) dX11_sell_4 rfl ?_
  have k3 := hv.1
  replace hv := hv.2
  refine e_callVi (pc := 6) (ci := 11) (st := []) (rc' := 0) (rs' := 0) (B' := bX11_wrongSale) [vI a1, vI a2, vJ a3, vJ a5] dX11_sell_6 vRX11_354 kX11_wrongSale (by decide) rfl k3 rfl rfl (Nat.le_of_ble_eq_true rfl) ⟨Nat.le_of_ble_eq_true rfl, Nat.le_of_ble_eq_true rfl⟩ rfl rfl hv (fun x2 w1 hv => ?_)
  refine e_istore (pc := 9) (i := 7) (lv' := [(0, vR a0), (1, vI a1), (2, vI a2), (3, vJ a3), (5, vJ a5), (7, vI x2)]) dX11_sell_9 (by decide) rfl ?_
  refine e_iload (pc := 11) (i := 7) dX11_sell_11 rfl ?_
  refine e_if_le (pc := 13) (tgt := 24) dX11_sell_13 (by decide) (fun h4 => ?_) (fun h4 => ?_)
  · replace hv := hv.1 h4
    refine e_aload_n (pc := 24) (i := 0) dX11_sell_24 rfl rfl ?_
    refine e_iload_n (pc := 25) (i := 1) dX11_sell_25 rfl rfl ?_
    refine e_iload_n (pc := 26) (i := 2) dX11_sell_26 rfl rfl ?_
    refine e_lload_n (pc := 27) (i := 3) dX11_sell_27 rfl rfl ?_
    refine e_lload (pc := 28) (i := 5) dX11_sell_28 rfl ?_
    have k7 := hv.1
    replace hv := hv.2
    refine e_callVj (pc := 30) (ci := 11) (st := []) (rc' := 0) (rs' := 0) (B' := bX11_give) [vI a1, vI a2, vJ a3, vJ a5] dX11_sell_30 vRX11_358 kX11_give (by decide) rfl k7 rfl rfl (Nat.le_of_ble_eq_true rfl) ⟨Nat.le_of_ble_eq_true rfl, Nat.le_of_ble_eq_true rfl⟩ rfl rfl hv (fun x6 w5 hv => ?_)
    refine e_lstore (pc := 33) (i := 8) (lv' := [(0, vR a0), (1, vI a1), (2, vI a2), (3, vJ a3), (5, vJ a5), (7, vI x2), (8, vJ x6)]) dX11_sell_33 (by decide) rfl ?_
    refine e_iconst (pc := 35) (v := 1) dX11_sell_35 (by decide) ?_
    refine e_istore (pc := 36) (i := 10) (lv' := [(0, vR a0), (1, vI a1), (2, vI a2), (3, vJ a3), (5, vJ a5), (7, vI x2), (8, vJ x6), (10, vI 1)]) dX11_sell_36 (by decide) rfl ?_
    exact EJ.drop [0, 2, 8, 10] rfl hv
  · replace hv := hv.2 h4
    refine e_aload_n (pc := 16) (i := 0) dX11_sell_16 rfl rfl ?_
    refine e_iload (pc := 17) (i := 7) dX11_sell_17 rfl ?_
    have k10 := hv.1
    replace hv := hv.2
    refine e_callVi (pc := 19) (ci := 11) (st := []) (rc' := 0) (rs' := 0) (B' := bX11_refuse) [vI x2] dX11_sell_19 vRX11_231 kX11_refuse (by decide) rfl k10 rfl rfl (Nat.le_of_ble_eq_true rfl) ⟨Nat.le_of_ble_eq_true rfl, Nat.le_of_ble_eq_true rfl⟩ rfl rfl hv (fun x9 w8 hv => ?_)
    refine e_i2l (pc := 22) dX11_sell_22 ?_
    exact e_lreturn (pc := 23) dX11_sell_23 rfl ⟨_, rfl, hv⟩
set_option maxRecDepth 100000 in
set_option maxHeartbeats 4000000 in
theorem oX11_share (X : Cx) (A : Int64 → Wd → Prop) (a0 : Nat) (a1 : Int32) (w : Wd)
    (hv : wK w a0 = 12 ∧ Ct X bX11_isEntry mX11_isEntry [vR a0, vI a1] w (qI fun x2 w1 => ((x2 = 0) → A 0 w1) ∧ ((¬ x2 = 0) → wK w1 a0 = 12 ∧ wK w1 (wR w1 11 62 a0) = 14 ∧ vp_in a1 (wL w1 (wR w1 11 62 a0)) ∧ A (xJ w1 (wR w1 11 62 a0) a1.toNatClampNeg) w1))) :
    Ct X bX11_share mX11_share [vR a0, vI a1] w (qJ A) := by
  refine Ct.of (lv := [(0, vR a0), (1, vI a1)]) rfl (Nat.le_of_ble_eq_true rfl) rfl ?_
  refine e_aload_n (pc := 0) (i := 0) dX11_share_0 rfl rfl ?_
  refine e_iload_n (pc := 1) (i := 1) dX11_share_1 rfl rfl ?_
  have k3 := hv.1
  replace hv := hv.2
  refine e_callVi (pc := 2) (ci := 11) (st := []) (rc' := 0) (rs' := 0) (B' := bX11_isEntry) [vI a1] dX11_share_2 vRX11_224 kX11_isEntry (by decide) rfl k3 rfl rfl (Nat.le_of_ble_eq_true rfl) ⟨Nat.le_of_ble_eq_true rfl, Nat.le_of_ble_eq_true rfl⟩ rfl rfl hv (fun x2 w1 hv => ?_)
  refine e_if_eq (pc := 5) (tgt := 17) dX11_share_5 (by decide) (fun h4 => ?_) (fun h4 => ?_)
  · replace hv := hv.1 h4
    refine e_lconst (pc := 17) (v := 0) dX11_share_17 (by decide) ?_
    exact e_lreturn (pc := 18) dX11_share_18 rfl ⟨_, rfl, hv⟩
  · replace hv := hv.2 h4
    refine e_aload_n (pc := 8) (i := 0) dX11_share_8 rfl rfl ?_
    have k5 := hv.1
    replace hv := hv.2
    refine e_getR (pc := 9) dX11_share_9 fRX11_157 rfl k5 ?_
    refine e_iload_n (pc := 12) (i := 1) dX11_share_12 rfl rfl ?_
    have k6 := hv.1
    replace hv := hv.2
    have hi7 := hv.1
    replace hv := hv.2
    refine e_lald (pc := 13) dX11_share_13 k6 hi7 ?_
    refine e_goto (pc := 14) (tgt := 18) dX11_share_14 (by decide) ?_
    exact e_lreturn (pc := 18) dX11_share_18 rfl ⟨_, rfl, hv⟩
set_option maxRecDepth 100000 in
set_option maxHeartbeats 4000000 in
theorem oX11_tell (X : Cx) (A : Int32 → Wd → Prop) (a0 : Nat) (a1 : Int32) (a2 : Int64) (w : Wd)
    (hv : wK w a0 = 12 ∧ Ct X bX11_isEntry mX11_isEntry [vR a0, vI a1] w (qI fun x2 w1 => ((¬ x2 = 0) → ((0 ≤ (lg_cmp a2 0)) → wK w1 a0 = 12 ∧ wK w1 (wR w1 11 63 a0) = 14 ∧ vp_in a1 (wL w1 (wR w1 11 63 a0)) ∧ ∀ w9 : Wd, w9 = yJ w1 (wR w1 11 63 a0) a1.toNatClampNeg a2 → ∀ w11 : Wd, w11 = sI w9 11 41 a0 0 → A 1 w11) ∧ ((¬ 0 ≤ (lg_cmp a2 0)) → wK w1 a0 = 12 ∧ Ct X bX11_no mX11_no [vR a0, vI 5] w1 (qI fun x13 w12 => (x13 = 0 ∨ x13 = 1) ∧ A x13 w12))) ∧ ((x2 = 0) → wK w1 a0 = 12 ∧ Ct X bX11_no mX11_no [vR a0, vI 1] w1 (qI fun x16 w15 => (x16 = 0 ∨ x16 = 1) ∧ A x16 w15)))) :
    Ct X bX11_tell mX11_tell [vR a0, vI a1, vJ a2] w (qI A) := by
  refine Ct.of (lv := [(0, vR a0), (1, vI a1), (2, vJ a2)]) rfl (Nat.le_of_ble_eq_true rfl) rfl ?_
  refine e_aload_n (pc := 0) (i := 0) dX11_tell_0 rfl rfl ?_
  refine e_iload_n (pc := 1) (i := 1) dX11_tell_1 rfl rfl ?_
  have k3 := hv.1
  replace hv := hv.2
  refine e_callVi (pc := 2) (ci := 11) (st := []) (rc' := 0) (rs' := 0) (B' := bX11_isEntry) [vI a1] dX11_tell_2 vRX11_224 kX11_isEntry (by decide) rfl k3 rfl rfl (Nat.le_of_ble_eq_true rfl) ⟨Nat.le_of_ble_eq_true rfl, Nat.le_of_ble_eq_true rfl⟩ rfl rfl hv (fun x2 w1 hv => ?_)
  refine e_if_ne (pc := 5) (tgt := 14) dX11_tell_5 (by decide) (fun h4 => ?_) (fun h4 => ?_)
  · replace hv := hv.1 h4
    refine e_lload_n (pc := 14) (i := 2) dX11_tell_14 rfl rfl ?_
    refine e_lconst (pc := 15) (v := 0) dX11_tell_15 (by decide) ?_
    refine e_lcmp (pc := 16) dX11_tell_16 ?_
    refine e_if_ge (pc := 17) (tgt := 26) dX11_tell_17 (by decide) (fun h5 => ?_) (fun h5 => ?_)
    · replace hv := hv.1 h5
      refine e_aload_n (pc := 26) (i := 0) dX11_tell_26 rfl rfl ?_
      have k6 := hv.1
      replace hv := hv.2
      refine e_getR (pc := 27) dX11_tell_27 fRX11_160 rfl k6 ?_
      refine e_iload_n (pc := 30) (i := 1) dX11_tell_30 rfl rfl ?_
      refine e_lload_n (pc := 31) (i := 2) dX11_tell_31 rfl rfl ?_
      have k7 := hv.1
      replace hv := hv.2
      have hi8 := hv.1
      replace hv := hv.2
      obtain ⟨w9, hw9⟩ : ∃ w9 : Wd, w9 = yJ w1 (wR w1 11 63 a0) a1.toNatClampNeg a2 := ⟨_, rfl⟩
      replace hv := hv w9 hw9
      refine e_last (pc := 32) dX11_tell_32 k7 hi8 ?_
      rw [← hw9]
      refine e_aload_n (pc := 33) (i := 0) dX11_tell_33 rfl rfl ?_
      refine e_iconst (pc := 34) (v := 0) dX11_tell_34 (by decide) ?_
      have k10 : wK w9 a0 = 12 := (by rw [hw9]; exact k6)
      obtain ⟨w11, hw11⟩ : ∃ w11 : Wd, w11 = sI w9 11 41 a0 0 := ⟨_, rfl⟩
      replace hv := hv w11 hw11
      refine e_putI (pc := 35) dX11_tell_35 fRX11_163 (Or.inl rfl) rfl k10 ?_
      rw [← hw11]
      refine e_iconst (pc := 38) (v := 1) dX11_tell_38 (by decide) ?_
      exact e_zreturn (pc := 39) dX11_tell_39 rfl (Or.inr rfl) ⟨_, rfl, hv⟩
    · replace hv := hv.2 h5
      refine e_aload_n (pc := 20) (i := 0) dX11_tell_20 rfl rfl ?_
      refine e_iconst (pc := 21) (v := 5) dX11_tell_21 (by decide) ?_
      have k14 := hv.1
      replace hv := hv.2
      refine e_callVi (pc := 22) (ci := 11) (st := []) (rc' := 0) (rs' := 0) (B' := bX11_no) [vI 5] dX11_tell_22 vRX11_238 kX11_no (by decide) rfl k14 rfl rfl (Nat.le_of_ble_eq_true rfl) ⟨Nat.le_of_ble_eq_true rfl, Nat.le_of_ble_eq_true rfl⟩ rfl rfl hv (fun x13 w12 hv => ?_)
      exact e_zreturn (pc := 25) dX11_tell_25 rfl hv.1 ⟨_, rfl, hv.2⟩
  · replace hv := hv.2 h4
    refine e_aload_n (pc := 8) (i := 0) dX11_tell_8 rfl rfl ?_
    refine e_iconst (pc := 9) (v := 1) dX11_tell_9 (by decide) ?_
    have k17 := hv.1
    replace hv := hv.2
    refine e_callVi (pc := 10) (ci := 11) (st := []) (rc' := 0) (rs' := 0) (B' := bX11_no) [vI 1] dX11_tell_10 vRX11_238 kX11_no (by decide) rfl k17 rfl rfl (Nat.le_of_ble_eq_true rfl) ⟨Nat.le_of_ble_eq_true rfl, Nat.le_of_ble_eq_true rfl⟩ rfl rfl hv (fun x16 w15 hv => ?_)
    exact e_zreturn (pc := 13) dX11_tell_13 rfl hv.1 ⟨_, rfl, hv.2⟩
abbrev jX11_check_8 (X : Cx) (A : Int32 → Wd → Prop) (l0 : Nat) (l1 : Int64) (l3 : Int32) (l4 : Int32) (w : Wd) : Prop := EJ X mX11_check (vw X bX11_check (qI A)) 0 0 8 [(0, vR l0), (1, vJ l1), (3, vI l3), (4, vI l4)] [] w
set_option maxRecDepth 100000 in
set_option maxHeartbeats 4000000 in
theorem tX11_check_8 (X : Cx) (A : Int32 → Wd → Prop) (l0 : Nat) (l1 : Int64) (l3 : Int32) (l4 : Int32) (w : Wd)
    (hv : ((l4 ≤ 0) → wK w l0 = 12 ∧ ∀ w3 : Wd, w3 = sI w 11 41 l0 0 → ((l3 = 0) → ((¬ (lg_cmp l1 (wJ w3 11 64 l0)) = 0) → A (-1) w3) ∧ (((lg_cmp l1 (wJ w3 11 64 l0)) = 0) → A 0 w3)) ∧ ((¬ l3 = 0) → A l3 w3)) ∧ ((¬ l4 ≤ 0) → wK w l0 = 12 ∧ wK w (wR w 11 6 l0) = 13 ∧ vp_in l4 (wL w (wR w 11 6 l0)) ∧ ((¬ (xI w (wR w 11 6 l0) l4.toNatClampNeg) = 0) → wK w (wR w 11 63 l0) = 14 ∧ vp_in l4 (wL w (wR w 11 63 l0)) ∧ ∀ w13 : Wd, w13 = yJ w (wR w 11 63 l0) l4.toNatClampNeg 0 → jX11_check_8 X A l0 l1 l3 (l4 + (-1)) w13) ∧ (((xI w (wR w 11 6 l0) l4.toNatClampNeg) = 0) → wK w (wR w 11 63 l0) = 14 ∧ vp_in l4 (wL w (wR w 11 63 l0)) ∧ wK w (wR w 11 62 l0) = 14 ∧ vp_in l4 (wL w (wR w 11 62 l0)) ∧ (((lg_cmp (xJ w (wR w 11 63 l0) l4.toNatClampNeg) (xJ w (wR w 11 62 l0) l4.toNatClampNeg)) = 0) → vp_in l4 (wL w (wR w 11 63 l0)) ∧ ∀ w20 : Wd, w20 = yJ w (wR w 11 63 l0) l4.toNatClampNeg 0 → jX11_check_8 X A l0 l1 l3 (l4 + (-1)) w20) ∧ ((¬ (lg_cmp (xJ w (wR w 11 63 l0) l4.toNatClampNeg) (xJ w (wR w 11 62 l0) l4.toNatClampNeg)) = 0) → vp_in l4 (wL w (wR w 11 63 l0)) ∧ ∀ w22 : Wd, w22 = yJ w (wR w 11 63 l0) l4.toNatClampNeg 0 → jX11_check_8 X A l0 l1 l4 (l4 + (-1)) w22)))) :
    jX11_check_8 X A l0 l1 l3 l4 w := by
  refine e_iload (pc := 8) (i := 4) dX11_check_8 rfl ?_
  refine e_if_le (pc := 10) (tgt := 58) dX11_check_10 (by decide) (fun h1 => ?_) (fun h1 => ?_)
  · replace hv := hv.1 h1
    refine e_aload_n (pc := 58) (i := 0) dX11_check_58 rfl rfl ?_
    refine e_iconst (pc := 59) (v := 0) dX11_check_59 (by decide) ?_
    have k2 := hv.1
    replace hv := hv.2
    obtain ⟨w3, hw3⟩ : ∃ w3 : Wd, w3 = sI w 11 41 l0 0 := ⟨_, rfl⟩
    replace hv := hv w3 hw3
    refine e_putI (pc := 60) dX11_check_60 fRX11_163 (Or.inl rfl) rfl k2 ?_
    rw [← hw3]
    refine e_iload_n (pc := 63) (i := 3) dX11_check_63 rfl rfl ?_
    refine e_if_eq (pc := 64) (tgt := 71) dX11_check_64 (by decide) (fun h4 => ?_) (fun h4 => ?_)
    · replace hv := hv.1 h4
      refine e_lload_n (pc := 71) (i := 1) dX11_check_71 rfl rfl ?_
      refine e_aload_n (pc := 72) (i := 0) dX11_check_72 rfl rfl ?_
      have k5 : wK w3 l0 = 12 := (by rw [hw3]; exact k2)
      refine e_getJ (pc := 73) dX11_check_73 fRX11_350 rfl k5 ?_
      refine e_lcmp (pc := 76) dX11_check_76 ?_
      refine e_if_ne (pc := 77) (tgt := 84) dX11_check_77 (by decide) (fun h6 => ?_) (fun h6 => ?_)
      · replace hv := hv.1 h6
        refine e_iconst (pc := 84) (v := (-1)) dX11_check_84 (by decide) ?_
        exact e_ireturn (pc := 85) dX11_check_85 rfl ⟨_, rfl, hv⟩
      · replace hv := hv.2 h6
        refine e_iconst (pc := 80) (v := 0) dX11_check_80 (by decide) ?_
        refine e_goto (pc := 81) (tgt := 85) dX11_check_81 (by decide) ?_
        exact e_ireturn (pc := 85) dX11_check_85 rfl ⟨_, rfl, hv⟩
    · replace hv := hv.2 h4
      refine e_iload_n (pc := 67) (i := 3) dX11_check_67 rfl rfl ?_
      refine e_goto (pc := 68) (tgt := 85) dX11_check_68 (by decide) ?_
      exact e_ireturn (pc := 85) dX11_check_85 rfl ⟨_, rfl, hv⟩
  · replace hv := hv.2 h1
    refine e_aload_n (pc := 13) (i := 0) dX11_check_13 rfl rfl ?_
    have k7 := hv.1
    replace hv := hv.2
    refine e_getR (pc := 14) dX11_check_14 fRX11_26 rfl k7 ?_
    refine e_iload (pc := 17) (i := 4) dX11_check_17 rfl ?_
    have k8 := hv.1
    replace hv := hv.2
    have hi9 := hv.1
    replace hv := hv.2
    refine e_iald (pc := 19) dX11_check_19 k8 hi9 ?_
    refine e_if_ne (pc := 20) (tgt := 44) dX11_check_20 (by decide) (fun h10 => ?_) (fun h10 => ?_)
    · replace hv := hv.1 h10
      refine e_aload_n (pc := 44) (i := 0) dX11_check_44 rfl rfl ?_
      refine e_getR (pc := 45) dX11_check_45 fRX11_160 rfl k7 ?_
      refine e_iload (pc := 48) (i := 4) dX11_check_48 rfl ?_
      refine e_lconst (pc := 50) (v := 0) dX11_check_50 (by decide) ?_
      have k11 := hv.1
      replace hv := hv.2
      have hi12 := hv.1
      replace hv := hv.2
      obtain ⟨w13, hw13⟩ : ∃ w13 : Wd, w13 = yJ w (wR w 11 63 l0) l4.toNatClampNeg 0 := ⟨_, rfl⟩
      replace hv := hv w13 hw13
      refine e_last (pc := 51) dX11_check_51 k11 hi12 ?_
      rw [← hw13]
      refine e_iinc (pc := 52) (v := l4 + (-1)) (lv' := [(0, vR l0), (1, vJ l1), (3, vI l3), (4, vI (l4 + (-1)))]) dX11_check_52 rfl rfl (by decide) rfl ?_
      refine e_goto (pc := 55) (tgt := 8) dX11_check_55 (by decide) ?_
      exact hv
    · replace hv := hv.2 h10
      refine e_aload_n (pc := 23) (i := 0) dX11_check_23 rfl rfl ?_
      refine e_getR (pc := 24) dX11_check_24 fRX11_160 rfl k7 ?_
      refine e_iload (pc := 27) (i := 4) dX11_check_27 rfl ?_
      have k14 := hv.1
      replace hv := hv.2
      have hi15 := hv.1
      replace hv := hv.2
      refine e_lald (pc := 29) dX11_check_29 k14 hi15 ?_
      refine e_aload_n (pc := 30) (i := 0) dX11_check_30 rfl rfl ?_
      refine e_getR (pc := 31) dX11_check_31 fRX11_157 rfl k7 ?_
      refine e_iload (pc := 34) (i := 4) dX11_check_34 rfl ?_
      have k16 := hv.1
      replace hv := hv.2
      have hi17 := hv.1
      replace hv := hv.2
      refine e_lald (pc := 36) dX11_check_36 k16 hi17 ?_
      refine e_lcmp (pc := 37) dX11_check_37 ?_
      refine e_if_eq (pc := 38) (tgt := 44) dX11_check_38 (by decide) (fun h18 => ?_) (fun h18 => ?_)
      · replace hv := hv.1 h18
        refine e_aload_n (pc := 44) (i := 0) dX11_check_44 rfl rfl ?_
        refine e_getR (pc := 45) dX11_check_45 fRX11_160 rfl k7 ?_
        refine e_iload (pc := 48) (i := 4) dX11_check_48 rfl ?_
        refine e_lconst (pc := 50) (v := 0) dX11_check_50 (by decide) ?_
        have hi19 := hv.1
        replace hv := hv.2
        obtain ⟨w20, hw20⟩ : ∃ w20 : Wd, w20 = yJ w (wR w 11 63 l0) l4.toNatClampNeg 0 := ⟨_, rfl⟩
        replace hv := hv w20 hw20
        refine e_last (pc := 51) dX11_check_51 k14 hi19 ?_
        rw [← hw20]
        refine e_iinc (pc := 52) (v := l4 + (-1)) (lv' := [(0, vR l0), (1, vJ l1), (3, vI l3), (4, vI (l4 + (-1)))]) dX11_check_52 rfl rfl (by decide) rfl ?_
        refine e_goto (pc := 55) (tgt := 8) dX11_check_55 (by decide) ?_
        exact hv
      · replace hv := hv.2 h18
        refine e_iload (pc := 41) (i := 4) dX11_check_41 rfl ?_
        refine e_istore_n (pc := 43) (i := 3) (lv' := [(0, vR l0), (1, vJ l1), (3, vI l4), (4, vI l4)]) dX11_check_43 rfl (by decide) rfl ?_
        refine e_aload_n (pc := 44) (i := 0) dX11_check_44 rfl rfl ?_
        refine e_getR (pc := 45) dX11_check_45 fRX11_160 rfl k7 ?_
        refine e_iload (pc := 48) (i := 4) dX11_check_48 rfl ?_
        refine e_lconst (pc := 50) (v := 0) dX11_check_50 (by decide) ?_
        have hi21 := hv.1
        replace hv := hv.2
        obtain ⟨w22, hw22⟩ : ∃ w22 : Wd, w22 = yJ w (wR w 11 63 l0) l4.toNatClampNeg 0 := ⟨_, rfl⟩
        replace hv := hv w22 hw22
        refine e_last (pc := 51) dX11_check_51 k14 hi21 ?_
        rw [← hw22]
        refine e_iinc (pc := 52) (v := l4 + (-1)) (lv' := [(0, vR l0), (1, vJ l1), (3, vI l4), (4, vI (l4 + (-1)))]) dX11_check_52 rfl rfl (by decide) rfl ?_
        refine e_goto (pc := 55) (tgt := 8) dX11_check_55 (by decide) ?_
        exact hv
set_option maxRecDepth 100000 in
set_option maxHeartbeats 4000000 in
theorem oX11_check (X : Cx) (A : Int32 → Wd → Prop) (a0 : Nat) (a1 : Int64) (w : Wd)
    (hv : wK w a0 = 12 ∧ jX11_check_8 X A a0 a1 0 (wI w 11 30 a0) w) :
    Ct X bX11_check mX11_check [vR a0, vJ a1] w (qI A) := by
  refine Ct.of (lv := [(0, vR a0), (1, vJ a1)]) rfl (Nat.le_of_ble_eq_true rfl) rfl ?_
  refine e_iconst (pc := 0) (v := 0) dX11_check_0 (by decide) ?_
  refine e_istore_n (pc := 1) (i := 3) (lv' := [(0, vR a0), (1, vJ a1), (3, vI 0)]) dX11_check_1 rfl (by decide) rfl ?_
  refine e_aload_n (pc := 2) (i := 0) dX11_check_2 rfl rfl ?_
  have k1 := hv.1
  replace hv := hv.2
  refine e_getI (pc := 3) dX11_check_3 fRX11_169 rfl k1 ?_
  refine e_istore (pc := 6) (i := 4) (lv' := [(0, vR a0), (1, vJ a1), (3, vI 0), (4, vI (wI w 11 30 a0))]) dX11_check_6 (by decide) rfl ?_
  exact hv
set_option maxRecDepth 100000 in
set_option maxHeartbeats 4000000 in
theorem oX11_kind (X : Cx) (A : Int32 → Wd → Prop) (a0 : Nat) (a1 : Int32) (a2 : Int32) (w : Wd)
    (hv : wK w a0 = 12 ∧ Ct X bX11_isEntry mX11_isEntry [vR a0, vI a1] w (qI fun x2 w1 => ((¬ x2 = 0) → wK w1 a0 = 12 ∧ wK w1 (wR w1 11 5 a0) = 13 ∧ vp_in a1 (wL w1 (wR w1 11 5 a0)) ∧ (a2 = 0 → wK w1 (wR w1 11 3 a0) = 13 ∧ vp_in a1 (wL w1 (wR w1 11 3 a0)) ∧ A (xI w1 (wR w1 11 3 a0) a1.toNatClampNeg) w1) ∧ (a2 = 1 → wK w1 (wR w1 11 4 a0) = 13 ∧ vp_in a1 (wL w1 (wR w1 11 4 a0)) ∧ A (xI w1 (wR w1 11 4 a0) a1.toNatClampNeg) w1) ∧ (a2 = 2 → A (xI w1 (wR w1 11 5 a0) a1.toNatClampNeg) w1) ∧ (a2 = 3 → wK w1 (wR w1 11 6 a0) = 13 ∧ vp_in a1 (wL w1 (wR w1 11 6 a0)) ∧ A (xI w1 (wR w1 11 6 a0) a1.toNatClampNeg) w1) ∧ (a2 = 4 → wK w1 (wR w1 11 7 a0) = 13 ∧ vp_in a1 (wL w1 (wR w1 11 7 a0)) ∧ A (xI w1 (wR w1 11 7 a0) a1.toNatClampNeg) w1) ∧ (a2 = 5 → Ct X bX11_livesNow mX11_livesNow [vR a0, vI a1] w1 (qI fun x23 w22 => ((x23 = 0) → A 0 w22) ∧ ((¬ x23 = 0) → A 1 w22))) ∧ (a2 = 6 → wK w1 (wR w1 11 13 a0) = 13 ∧ vp_in (xI w1 (wR w1 11 5 a0) a1.toNatClampNeg) (wL w1 (wR w1 11 13 a0)) ∧ A (xI w1 (wR w1 11 13 a0) (xI w1 (wR w1 11 5 a0) a1.toNatClampNeg).toNatClampNeg) w1) ∧ (a2 = 7 → wK w1 (wR w1 11 14 a0) = 13 ∧ vp_in (xI w1 (wR w1 11 5 a0) a1.toNatClampNeg) (wL w1 (wR w1 11 14 a0)) ∧ A (xI w1 (wR w1 11 14 a0) (xI w1 (wR w1 11 5 a0) a1.toNatClampNeg).toNatClampNeg) w1) ∧ (a2 = 8 → wK w1 (wR w1 11 9 a0) = 13 ∧ vp_in a1 (wL w1 (wR w1 11 9 a0)) ∧ (((xI w1 (wR w1 11 9 a0) a1.toNatClampNeg) = 0) → A 0 w1) ∧ ((¬ (xI w1 (wR w1 11 9 a0) a1.toNatClampNeg) = 0) → A 2 w1)) ∧ (a2 = 9 → wK w1 (wR w1 11 24 a0) = 13 ∧ vp_in a1 (wL w1 (wR w1 11 24 a0)) ∧ wK w1 (wR w1 11 25 a0) = 13 ∧ vp_in a1 (wL w1 (wR w1 11 25 a0)) ∧ A ((xI w1 (wR w1 11 24 a0) a1.toNatClampNeg) + (xI w1 (wR w1 11 25 a0) a1.toNatClampNeg)) w1) ∧ (¬ a2 = 0 → ¬ a2 = 1 → ¬ a2 = 2 → ¬ a2 = 3 → ¬ a2 = 4 → ¬ a2 = 5 → ¬ a2 = 6 → ¬ a2 = 7 → ¬ a2 = 8 → ¬ a2 = 9 → A (-1) w1)) ∧ ((x2 = 0) → A (-1) w1))) :
    Ct X bX11_kind mX11_kind [vR a0, vI a1, vI a2] w (qI A) := by
  refine Ct.of (lv := [(0, vR a0), (1, vI a1), (2, vI a2)]) rfl (Nat.le_of_ble_eq_true rfl) rfl ?_
  refine e_aload_n (pc := 0) (i := 0) dX11_kind_0 rfl rfl ?_
  refine e_iload_n (pc := 1) (i := 1) dX11_kind_1 rfl rfl ?_
  have k3 := hv.1
  replace hv := hv.2
  refine e_callVi (pc := 2) (ci := 11) (st := []) (rc' := 0) (rs' := 0) (B' := bX11_isEntry) [vI a1] dX11_kind_2 vRX11_224 kX11_isEntry (by decide) rfl k3 rfl rfl (Nat.le_of_ble_eq_true rfl) ⟨Nat.le_of_ble_eq_true rfl, Nat.le_of_ble_eq_true rfl⟩ rfl rfl hv (fun x2 w1 hv => ?_)
  refine e_if_ne (pc := 5) (tgt := 10) dX11_kind_5 (by decide) (fun h4 => ?_) (fun h4 => ?_)
  · replace hv := hv.1 h4
    refine e_aload_n (pc := 10) (i := 0) dX11_kind_10 rfl rfl ?_
    have k5 := hv.1
    replace hv := hv.2
    refine e_getR (pc := 11) dX11_kind_11 fRX11_23 rfl k5 ?_
    refine e_iload_n (pc := 14) (i := 1) dX11_kind_14 rfl rfl ?_
    have k6 := hv.1
    replace hv := hv.2
    have hi7 := hv.1
    replace hv := hv.2
    refine e_iald (pc := 15) dX11_kind_15 k6 hi7 ?_
    refine e_istore_n (pc := 16) (i := 3) (lv' := [(0, vR a0), (1, vI a1), (2, vI a2), (3, vI (xI w1 (wR w1 11 5 a0) a1.toNatClampNeg))]) dX11_kind_16 rfl (by decide) rfl ?_
    refine e_iload_n (pc := 17) (i := 2) dX11_kind_17 rfl rfl ?_
    by_cases h8 : a2 = 0
    · replace hv := hv.1 h8
      refine e_tableK (pc := 18) (tgt := 72) (c := 0) (off := 54) dX11_kind_18 h8 (by decide) (by decide) (by decide) (by decide) ?_
      refine e_aload_n (pc := 72) (i := 0) dX11_kind_72 rfl rfl ?_
      refine e_getR (pc := 73) dX11_kind_73 fRX11_17 rfl k5 ?_
      refine e_iload_n (pc := 76) (i := 1) dX11_kind_76 rfl rfl ?_
      have k9 := hv.1
      replace hv := hv.2
      have hi10 := hv.1
      replace hv := hv.2
      refine e_iald (pc := 77) dX11_kind_77 k9 hi10 ?_
      exact e_ireturn (pc := 78) dX11_kind_78 rfl ⟨_, rfl, hv⟩
    replace hv := hv.2
    by_cases h11 : a2 = 1
    · replace hv := hv.1 h11
      refine e_tableK (pc := 18) (tgt := 79) (c := 1) (off := 61) dX11_kind_18 h11 (by decide) (by decide) (by decide) (by decide) ?_
      refine e_aload_n (pc := 79) (i := 0) dX11_kind_79 rfl rfl ?_
      refine e_getR (pc := 80) dX11_kind_80 fRX11_20 rfl k5 ?_
      refine e_iload_n (pc := 83) (i := 1) dX11_kind_83 rfl rfl ?_
      have k12 := hv.1
      replace hv := hv.2
      have hi13 := hv.1
      replace hv := hv.2
      refine e_iald (pc := 84) dX11_kind_84 k12 hi13 ?_
      exact e_ireturn (pc := 85) dX11_kind_85 rfl ⟨_, rfl, hv⟩
    replace hv := hv.2
    by_cases h14 : a2 = 2
    · replace hv := hv.1 h14
      refine e_tableK (pc := 18) (tgt := 86) (c := 2) (off := 68) dX11_kind_18 h14 (by decide) (by decide) (by decide) (by decide) ?_
      refine e_iload_n (pc := 86) (i := 3) dX11_kind_86 rfl rfl ?_
      exact e_ireturn (pc := 87) dX11_kind_87 rfl ⟨_, rfl, hv⟩
    replace hv := hv.2
    by_cases h15 : a2 = 3
    · replace hv := hv.1 h15
      refine e_tableK (pc := 18) (tgt := 88) (c := 3) (off := 70) dX11_kind_18 h15 (by decide) (by decide) (by decide) (by decide) ?_
      refine e_aload_n (pc := 88) (i := 0) dX11_kind_88 rfl rfl ?_
      refine e_getR (pc := 89) dX11_kind_89 fRX11_26 rfl k5 ?_
      refine e_iload_n (pc := 92) (i := 1) dX11_kind_92 rfl rfl ?_
      have k16 := hv.1
      replace hv := hv.2
      have hi17 := hv.1
      replace hv := hv.2
      refine e_iald (pc := 93) dX11_kind_93 k16 hi17 ?_
      exact e_ireturn (pc := 94) dX11_kind_94 rfl ⟨_, rfl, hv⟩
    replace hv := hv.2
    by_cases h18 : a2 = 4
    · replace hv := hv.1 h18
      refine e_tableK (pc := 18) (tgt := 95) (c := 4) (off := 77) dX11_kind_18 h18 (by decide) (by decide) (by decide) (by decide) ?_
      refine e_aload_n (pc := 95) (i := 0) dX11_kind_95 rfl rfl ?_
      refine e_getR (pc := 96) dX11_kind_96 fRX11_29 rfl k5 ?_
      refine e_iload_n (pc := 99) (i := 1) dX11_kind_99 rfl rfl ?_
      have k19 := hv.1
      replace hv := hv.2
      have hi20 := hv.1
      replace hv := hv.2
      refine e_iald (pc := 100) dX11_kind_100 k19 hi20 ?_
      exact e_ireturn (pc := 101) dX11_kind_101 rfl ⟨_, rfl, hv⟩
    replace hv := hv.2
    by_cases h21 : a2 = 5
    · replace hv := hv.1 h21
      refine e_tableK (pc := 18) (tgt := 102) (c := 5) (off := 84) dX11_kind_18 h21 (by decide) (by decide) (by decide) (by decide) ?_
      refine e_aload_n (pc := 102) (i := 0) dX11_kind_102 rfl rfl ?_
      refine e_iload_n (pc := 103) (i := 1) dX11_kind_103 rfl rfl ?_
      refine e_callVi (pc := 104) (ci := 11) (st := []) (rc' := 0) (rs' := 0) (B' := bX11_livesNow) [vI a1] dX11_kind_104 vRX11_260 kX11_livesNow (by decide) rfl k5 rfl rfl (Nat.le_of_ble_eq_true rfl) ⟨Nat.le_of_ble_eq_true rfl, Nat.le_of_ble_eq_true rfl⟩ rfl rfl hv (fun x23 w22 hv => ?_)
      refine e_if_eq (pc := 107) (tgt := 114) dX11_kind_107 (by decide) (fun h24 => ?_) (fun h24 => ?_)
      · replace hv := hv.1 h24
        refine e_iconst (pc := 114) (v := 0) dX11_kind_114 (by decide) ?_
        exact e_ireturn (pc := 115) dX11_kind_115 rfl ⟨_, rfl, hv⟩
      · replace hv := hv.2 h24
        refine e_iconst (pc := 110) (v := 1) dX11_kind_110 (by decide) ?_
        refine e_goto (pc := 111) (tgt := 115) dX11_kind_111 (by decide) ?_
        exact e_ireturn (pc := 115) dX11_kind_115 rfl ⟨_, rfl, hv⟩
    replace hv := hv.2
    by_cases h25 : a2 = 6
    · replace hv := hv.1 h25
      refine e_tableK (pc := 18) (tgt := 116) (c := 6) (off := 98) dX11_kind_18 h25 (by decide) (by decide) (by decide) (by decide) ?_
      refine e_aload_n (pc := 116) (i := 0) dX11_kind_116 rfl rfl ?_
      refine e_getR (pc := 117) dX11_kind_117 fRX11_48 rfl k5 ?_
      refine e_iload_n (pc := 120) (i := 3) dX11_kind_120 rfl rfl ?_
      have k26 := hv.1
      replace hv := hv.2
      have hi27 := hv.1
      replace hv := hv.2
      refine e_iald (pc := 121) dX11_kind_121 k26 hi27 ?_
      exact e_ireturn (pc := 122) dX11_kind_122 rfl ⟨_, rfl, hv⟩
    replace hv := hv.2
    by_cases h28 : a2 = 7
    · replace hv := hv.1 h28
      refine e_tableK (pc := 18) (tgt := 123) (c := 7) (off := 105) dX11_kind_18 h28 (by decide) (by decide) (by decide) (by decide) ?_
      refine e_aload_n (pc := 123) (i := 0) dX11_kind_123 rfl rfl ?_
      refine e_getR (pc := 124) dX11_kind_124 fRX11_51 rfl k5 ?_
      refine e_iload_n (pc := 127) (i := 3) dX11_kind_127 rfl rfl ?_
      have k29 := hv.1
      replace hv := hv.2
      have hi30 := hv.1
      replace hv := hv.2
      refine e_iald (pc := 128) dX11_kind_128 k29 hi30 ?_
      exact e_ireturn (pc := 129) dX11_kind_129 rfl ⟨_, rfl, hv⟩
    replace hv := hv.2
    by_cases h31 : a2 = 8
    · replace hv := hv.1 h31
      refine e_tableK (pc := 18) (tgt := 130) (c := 8) (off := 112) dX11_kind_18 h31 (by decide) (by decide) (by decide) (by decide) ?_
      refine e_aload_n (pc := 130) (i := 0) dX11_kind_130 rfl rfl ?_
      refine e_getR (pc := 131) dX11_kind_131 fRX11_36 rfl k5 ?_
      refine e_iload_n (pc := 134) (i := 1) dX11_kind_134 rfl rfl ?_
      have k32 := hv.1
      replace hv := hv.2
      have hi33 := hv.1
      replace hv := hv.2
      refine e_iald (pc := 135) dX11_kind_135 k32 hi33 ?_
      refine e_if_eq (pc := 136) (tgt := 143) dX11_kind_136 (by decide) (fun h34 => ?_) (fun h34 => ?_)
      · replace hv := hv.1 h34
        refine e_iconst (pc := 143) (v := 0) dX11_kind_143 (by decide) ?_
        exact e_ireturn (pc := 144) dX11_kind_144 rfl ⟨_, rfl, hv⟩
      · replace hv := hv.2 h34
        refine e_iconst (pc := 139) (v := 2) dX11_kind_139 (by decide) ?_
        refine e_goto (pc := 140) (tgt := 144) dX11_kind_140 (by decide) ?_
        exact e_ireturn (pc := 144) dX11_kind_144 rfl ⟨_, rfl, hv⟩
    replace hv := hv.2
    by_cases h35 : a2 = 9
    · replace hv := hv.1 h35
      refine e_tableK (pc := 18) (tgt := 145) (c := 9) (off := 127) dX11_kind_18 h35 (by decide) (by decide) (by decide) (by decide) ?_
      refine e_aload_n (pc := 145) (i := 0) dX11_kind_145 rfl rfl ?_
      refine e_getR (pc := 146) dX11_kind_146 fRX11_81 rfl k5 ?_
      refine e_iload_n (pc := 149) (i := 1) dX11_kind_149 rfl rfl ?_
      have k36 := hv.1
      replace hv := hv.2
      have hi37 := hv.1
      replace hv := hv.2
      refine e_iald (pc := 150) dX11_kind_150 k36 hi37 ?_
      refine e_aload_n (pc := 151) (i := 0) dX11_kind_151 rfl rfl ?_
      refine e_getR (pc := 152) dX11_kind_152 fRX11_84 rfl k5 ?_
      refine e_iload_n (pc := 155) (i := 1) dX11_kind_155 rfl rfl ?_
      have k38 := hv.1
      replace hv := hv.2
      have hi39 := hv.1
      replace hv := hv.2
      refine e_iald (pc := 156) dX11_kind_156 k38 hi39 ?_
      refine e_iadd (pc := 157) dX11_kind_157 ?_
      exact e_ireturn (pc := 158) dX11_kind_158 rfl ⟨_, rfl, hv⟩
    replace hv := hv.2
    replace hv := hv h8 h11 h14 h15 h18 h21 h25 h28 h31 h35
    refine e_tableOut (pc := 18) (tgt := 159) dX11_kind_18 (by have z0 : ¬ a2.toInt = 0 := lv_neT h8 (by decide); have z1 : ¬ a2.toInt = 1 := lv_neT h11 (by decide); have z2 : ¬ a2.toInt = 2 := lv_neT h14 (by decide); have z3 : ¬ a2.toInt = 3 := lv_neT h15 (by decide); have z4 : ¬ a2.toInt = 4 := lv_neT h18 (by decide); have z5 : ¬ a2.toInt = 5 := lv_neT h21 (by decide); have z6 : ¬ a2.toInt = 6 := lv_neT h25 (by decide); have z7 : ¬ a2.toInt = 7 := lv_neT h28 (by decide); have z8 : ¬ a2.toInt = 8 := lv_neT h31 (by decide); have z9 : ¬ a2.toInt = 9 := lv_neT h35 (by decide); omega) (by decide) ?_
    refine e_iconst (pc := 159) (v := (-1)) dX11_kind_159 (by decide) ?_
    exact e_ireturn (pc := 160) dX11_kind_160 rfl ⟨_, rfl, hv⟩
  · replace hv := hv.2 h4
    refine e_iconst (pc := 8) (v := (-1)) dX11_kind_8 (by decide) ?_
    exact e_ireturn (pc := 9) dX11_kind_9 rfl ⟨_, rfl, hv⟩
set_option maxRecDepth 100000 in
set_option maxHeartbeats 4000000 in
theorem oX11_sum (X : Cx) (A : Int64 → Wd → Prop) (a0 : Nat) (a1 : Int32) (w : Wd)
    (hv : wK w a0 = 12 ∧ Ct X bX11_isEntry mX11_isEntry [vR a0, vI a1] w (qI fun x2 w1 => ((x2 = 0) → A (-1) w1) ∧ ((¬ x2 = 0) → wK w1 a0 = 12 ∧ Ct X bX11_sumBelow mX11_sumBelow [vR a0, vI a1] w1 (qJ fun x6 w5 => A x6 w5)))) :
    Ct X bX11_sum mX11_sum [vR a0, vI a1] w (qJ A) := by
  refine Ct.of (lv := [(0, vR a0), (1, vI a1)]) rfl (Nat.le_of_ble_eq_true rfl) rfl ?_
  refine e_aload_n (pc := 0) (i := 0) dX11_sum_0 rfl rfl ?_
  refine e_iload_n (pc := 1) (i := 1) dX11_sum_1 rfl rfl ?_
  have k3 := hv.1
  replace hv := hv.2
  refine e_callVi (pc := 2) (ci := 11) (st := []) (rc' := 0) (rs' := 0) (B' := bX11_isEntry) [vI a1] dX11_sum_2 vRX11_224 kX11_isEntry (by decide) rfl k3 rfl rfl (Nat.le_of_ble_eq_true rfl) ⟨Nat.le_of_ble_eq_true rfl, Nat.le_of_ble_eq_true rfl⟩ rfl rfl hv (fun x2 w1 hv => ?_)
  refine e_if_eq (pc := 5) (tgt := 16) dX11_sum_5 (by decide) (fun h4 => ?_) (fun h4 => ?_)
  · replace hv := hv.1 h4
    refine e_ldc2 (pc := 16) (v := -1) dX11_sum_16 (tb_a5 119 (by decide +kernel) rfl) ?_
    exact e_lreturn (pc := 19) dX11_sum_19 rfl ⟨_, rfl, hv⟩
  · replace hv := hv.2 h4
    refine e_aload_n (pc := 8) (i := 0) dX11_sum_8 rfl rfl ?_
    refine e_iload_n (pc := 9) (i := 1) dX11_sum_9 rfl rfl ?_
    have k7 := hv.1
    replace hv := hv.2
    refine e_callVj (pc := 10) (ci := 11) (st := []) (rc' := 0) (rs' := 0) (B' := bX11_sumBelow) [vI a1] dX11_sum_10 vRX11_263 kX11_sumBelow (by decide) rfl k7 rfl rfl (Nat.le_of_ble_eq_true rfl) ⟨Nat.le_of_ble_eq_true rfl, Nat.le_of_ble_eq_true rfl⟩ rfl rfl hv (fun x6 w5 hv => ?_)
    refine e_goto (pc := 13) (tgt := 19) dX11_sum_13 (by decide) ?_
    exact e_lreturn (pc := 19) dX11_sum_19 rfl ⟨_, rfl, hv⟩
abbrev jX11_parcels_9 (X : Cx) (A : Int64 → Wd → Prop) (l0 : Nat) (l1 : Int32) (l2 : Int64) (l4 : Int32) (w : Wd) : Prop := EJ X mX11_parcels (vw X bX11_parcels (qJ A)) 0 0 9 [(0, vR l0), (1, vI l1), (2, vJ l2), (4, vI l4)] [] w
set_option maxRecDepth 100000 in
set_option maxHeartbeats 4000000 in
theorem tX11_parcels_9 (X : Cx) (A : Int64 → Wd → Prop) (l0 : Nat) (l1 : Int32) (l2 : Int64) (l4 : Int32) (w : Wd)
    (hv : wK w l0 = 12 ∧ Ct X bX11_isEntry mX11_isEntry [vR l0, vI l1] w (qI fun x2 w1 => ((x2 = 0) → A l2 w1) ∧ ((¬ x2 = 0) → wK w1 l0 = 12 ∧ wK w1 (wR w1 11 4 l0) = 13 ∧ vp_in l1 (wL w1 (wR w1 11 4 l0)) ∧ wK w1 (wR w1 11 0 l0) = 13 ∧ vp_in (xI w1 (wR w1 11 4 l0) l1.toNatClampNeg) (wL w1 (wR w1 11 0 l0)) ∧ (((xI w1 (wR w1 11 0 l0) (xI w1 (wR w1 11 4 l0) l1.toNatClampNeg).toNatClampNeg) ≤ l4) → A l2 w1) ∧ ((¬ (xI w1 (wR w1 11 0 l0) (xI w1 (wR w1 11 4 l0) l1.toNatClampNeg).toNatClampNeg) ≤ l4) → Ct X bX11_lies mX11_lies [vR l0, vI l1, vI l4] w1 (qI fun x12 w11 => ((x12 = 0) → jX11_parcels_9 X A l0 l1 (l2 ||| 0) (l4 + 1) w11) ∧ ((¬ x12 = 0) → jX11_parcels_9 X A l0 l1 (l2 ||| ((1 : Int64) <<< (l4.toInt64 &&& 63))) (l4 + 1) w11)))))) :
    jX11_parcels_9 X A l0 l1 l2 l4 w := by
  refine e_aload_n (pc := 9) (i := 0) dX11_parcels_9 rfl rfl ?_
  refine e_iload_n (pc := 10) (i := 1) dX11_parcels_10 rfl rfl ?_
  have k3 := hv.1
  replace hv := hv.2
  refine e_callVi (pc := 11) (ci := 11) (st := []) (rc' := 0) (rs' := 0) (B' := bX11_isEntry) [vI l1] dX11_parcels_11 vRX11_224 kX11_isEntry (by decide) rfl k3 rfl rfl (Nat.le_of_ble_eq_true rfl) ⟨Nat.le_of_ble_eq_true rfl, Nat.le_of_ble_eq_true rfl⟩ rfl rfl hv (fun x2 w1 hv => ?_)
  refine e_if_eq (pc := 14) (tgt := 60) dX11_parcels_14 (by decide) (fun h4 => ?_) (fun h4 => ?_)
  · replace hv := hv.1 h4
    refine e_lload_n (pc := 60) (i := 2) dX11_parcels_60 rfl rfl ?_
    exact e_lreturn (pc := 61) dX11_parcels_61 rfl ⟨_, rfl, hv⟩
  · replace hv := hv.2 h4
    refine e_iload (pc := 17) (i := 4) dX11_parcels_17 rfl ?_
    refine e_aload_n (pc := 19) (i := 0) dX11_parcels_19 rfl rfl ?_
    have k5 := hv.1
    replace hv := hv.2
    refine e_getR (pc := 20) dX11_parcels_20 fRX11_7 rfl k5 ?_
    refine e_aload_n (pc := 23) (i := 0) dX11_parcels_23 rfl rfl ?_
    refine e_getR (pc := 24) dX11_parcels_24 fRX11_20 rfl k5 ?_
    refine e_iload_n (pc := 27) (i := 1) dX11_parcels_27 rfl rfl ?_
    have k6 := hv.1
    replace hv := hv.2
    have hi7 := hv.1
    replace hv := hv.2
    refine e_iald (pc := 28) dX11_parcels_28 k6 hi7 ?_
    have k8 := hv.1
    replace hv := hv.2
    have hi9 := hv.1
    replace hv := hv.2
    refine e_iald (pc := 29) dX11_parcels_29 k8 hi9 ?_
    refine e_icmp_ge (pc := 30) (tgt := 60) dX11_parcels_30 (by decide) (fun h10 => ?_) (fun h10 => ?_)
    · replace hv := hv.1 h10
      refine e_lload_n (pc := 60) (i := 2) dX11_parcels_60 rfl rfl ?_
      exact e_lreturn (pc := 61) dX11_parcels_61 rfl ⟨_, rfl, hv⟩
    · replace hv := hv.2 h10
      refine e_lload_n (pc := 33) (i := 2) dX11_parcels_33 rfl rfl ?_
      refine e_aload_n (pc := 34) (i := 0) dX11_parcels_34 rfl rfl ?_
      refine e_iload_n (pc := 35) (i := 1) dX11_parcels_35 rfl rfl ?_
      refine e_iload (pc := 36) (i := 4) dX11_parcels_36 rfl ?_
      refine e_callVi (pc := 38) (ci := 11) (st := [vJ l2]) (rc' := 0) (rs' := 0) (B' := bX11_lies) [vI l1, vI l4] dX11_parcels_38 vRX11_293 kX11_lies (by decide) rfl k5 rfl rfl (Nat.le_of_ble_eq_true rfl) ⟨Nat.le_of_ble_eq_true rfl, Nat.le_of_ble_eq_true rfl⟩ rfl rfl hv (fun x12 w11 hv => ?_)
      refine e_if_eq (pc := 41) (tgt := 51) dX11_parcels_41 (by decide) (fun h13 => ?_) (fun h13 => ?_)
      · replace hv := hv.1 h13
        refine e_lconst (pc := 51) (v := 0) dX11_parcels_51 (by decide) ?_
        refine e_lor (pc := 52) dX11_parcels_52 ?_
        refine e_lstore_n (pc := 53) (i := 2) (lv' := [(0, vR l0), (1, vI l1), (2, vJ (l2 ||| 0)), (4, vI l4)]) dX11_parcels_53 rfl (by decide) rfl ?_
        refine e_iinc (pc := 54) (v := l4 + 1) (lv' := [(0, vR l0), (1, vI l1), (2, vJ (l2 ||| 0)), (4, vI (l4 + 1))]) dX11_parcels_54 rfl rfl (by decide) rfl ?_
        refine e_goto (pc := 57) (tgt := 9) dX11_parcels_57 (by decide) ?_
        exact hv
      · replace hv := hv.2 h13
        refine e_lconst (pc := 44) (v := 1) dX11_parcels_44 (by decide) ?_
        refine e_iload (pc := 45) (i := 4) dX11_parcels_45 rfl ?_
        refine e_lshl (pc := 47) dX11_parcels_47 ?_
        refine e_goto (pc := 48) (tgt := 52) dX11_parcels_48 (by decide) ?_
        refine e_lor (pc := 52) dX11_parcels_52 ?_
        refine e_lstore_n (pc := 53) (i := 2) (lv' := [(0, vR l0), (1, vI l1), (2, vJ (l2 ||| ((1 : Int64) <<< (l4.toInt64 &&& 63)))), (4, vI l4)]) dX11_parcels_53 rfl (by decide) rfl ?_
        refine e_iinc (pc := 54) (v := l4 + 1) (lv' := [(0, vR l0), (1, vI l1), (2, vJ (l2 ||| ((1 : Int64) <<< (l4.toInt64 &&& 63)))), (4, vI (l4 + 1))]) dX11_parcels_54 rfl rfl (by decide) rfl ?_
        refine e_goto (pc := 57) (tgt := 9) dX11_parcels_57 (by decide) ?_
        exact hv
set_option maxRecDepth 100000 in
set_option maxHeartbeats 4000000 in
theorem oX11_parcels (X : Cx) (A : Int64 → Wd → Prop) (a0 : Nat) (a1 : Int32) (w : Wd)
    (hv : wK w a0 = 12 ∧ Ct X bX11_now mX11_now [vR a0] w (qV fun w1 => jX11_parcels_9 X A a0 a1 0 0 w1)) :
    Ct X bX11_parcels mX11_parcels [vR a0, vI a1] w (qJ A) := by
  refine Ct.of (lv := [(0, vR a0), (1, vI a1)]) rfl (Nat.le_of_ble_eq_true rfl) rfl ?_
  refine e_lconst (pc := 0) (v := 0) dX11_parcels_0 (by decide) ?_
  refine e_lstore_n (pc := 1) (i := 2) (lv' := [(0, vR a0), (1, vI a1), (2, vJ 0)]) dX11_parcels_1 rfl (by decide) rfl ?_
  refine e_aload_n (pc := 2) (i := 0) dX11_parcels_2 rfl rfl ?_
  have k3 := hv.1
  replace hv := hv.2
  refine e_callVv (pc := 3) (ci := 11) (st := []) (rc' := 0) (rs' := 0) (B' := bX11_now) [] dX11_parcels_3 vRX11_257 kX11_now (by decide) rfl k3 rfl rfl (Nat.le_of_ble_eq_true rfl) ⟨Nat.le_of_ble_eq_true rfl, Nat.le_of_ble_eq_true rfl⟩ rfl rfl hv (fun w1 hv => ?_)
  refine e_iconst (pc := 6) (v := 0) dX11_parcels_6 (by decide) ?_
  refine e_istore (pc := 7) (i := 4) (lv' := [(0, vR a0), (1, vI a1), (2, vJ 0), (4, vI 0)]) dX11_parcels_7 (by decide) rfl ?_
  exact hv
set_option maxRecDepth 100000 in
set_option maxHeartbeats 4000000 in
theorem oX11_status (X : Cx) (A : Int32 → Wd → Prop) (a0 : Nat) (w : Wd)
    (hv : wK w a0 = 12 ∧ A (wI w 11 41 a0) w) :
    Ct X bX11_status mX11_status [vR a0] w (qI A) := by
  refine Ct.of (lv := [(0, vR a0)]) rfl (Nat.le_of_ble_eq_true rfl) rfl ?_
  refine e_aload_n (pc := 0) (i := 0) dX11_status_0 rfl rfl ?_
  have k1 := hv.1
  replace hv := hv.2
  refine e_getI (pc := 1) dX11_status_1 fRX11_163 rfl k1 ?_
  exact e_ireturn (pc := 4) dX11_status_4 rfl ⟨_, rfl, hv⟩
set_option maxRecDepth 100000 in
set_option maxHeartbeats 4000000 in
theorem oX11_count (X : Cx) (A : Int32 → Wd → Prop) (a0 : Nat) (a1 : Int32) (w : Wd)
    (hv : (a1 = 0 → wK w a0 = 12 ∧ A (wI w 11 39 a0) w) ∧ (a1 = 1 → wK w a0 = 12 ∧ A (wI w 11 2 a0) w) ∧ (a1 = 2 → wK w a0 = 12 ∧ A (wI w 11 30 a0) w) ∧ (a1 = 3 → wK w a0 = 12 ∧ A (wI w 11 38 a0) w) ∧ (a1 = 4 → wK w a0 = 12 ∧ Ct X bX11_dateNow mX11_dateNow [vR a0] w (qI fun x11 w10 => A x11 w10)) ∧ (a1 = 5 → wK w a0 = 12 ∧ A (wI w 11 43 a0) w) ∧ (a1 = 6 → wK w a0 = 12 ∧ A (wI w 11 44 a0) w) ∧ (¬ a1 = 0 → ¬ a1 = 1 → ¬ a1 = 2 → ¬ a1 = 3 → ¬ a1 = 4 → ¬ a1 = 5 → ¬ a1 = 6 → A (-1) w)) :
    Ct X bX11_count mX11_count [vR a0, vI a1] w (qI A) := by
  refine Ct.of (lv := [(0, vR a0), (1, vI a1)]) rfl (Nat.le_of_ble_eq_true rfl) rfl ?_
  refine e_iload_n (pc := 0) (i := 1) dX11_count_0 rfl rfl ?_
  by_cases h1 : a1 = 0
  · replace hv := hv.1 h1
    refine e_tableK (pc := 1) (tgt := 44) (c := 0) (off := 43) dX11_count_1 h1 (by decide) (by decide) (by decide) (by decide) ?_
    refine e_aload_n (pc := 44) (i := 0) dX11_count_44 rfl rfl ?_
    have k2 := hv.1
    replace hv := hv.2
    refine e_getI (pc := 45) dX11_count_45 fRX11_166 rfl k2 ?_
    exact e_ireturn (pc := 48) dX11_count_48 rfl ⟨_, rfl, hv⟩
  replace hv := hv.2
  by_cases h3 : a1 = 1
  · replace hv := hv.1 h3
    refine e_tableK (pc := 1) (tgt := 49) (c := 1) (off := 48) dX11_count_1 h3 (by decide) (by decide) (by decide) (by decide) ?_
    refine e_aload_n (pc := 49) (i := 0) dX11_count_49 rfl rfl ?_
    have k4 := hv.1
    replace hv := hv.2
    refine e_getI (pc := 50) dX11_count_50 fRX11_172 rfl k4 ?_
    exact e_ireturn (pc := 53) dX11_count_53 rfl ⟨_, rfl, hv⟩
  replace hv := hv.2
  by_cases h5 : a1 = 2
  · replace hv := hv.1 h5
    refine e_tableK (pc := 1) (tgt := 54) (c := 2) (off := 53) dX11_count_1 h5 (by decide) (by decide) (by decide) (by decide) ?_
    refine e_aload_n (pc := 54) (i := 0) dX11_count_54 rfl rfl ?_
    have k6 := hv.1
    replace hv := hv.2
    refine e_getI (pc := 55) dX11_count_55 fRX11_169 rfl k6 ?_
    exact e_ireturn (pc := 58) dX11_count_58 rfl ⟨_, rfl, hv⟩
  replace hv := hv.2
  by_cases h7 : a1 = 3
  · replace hv := hv.1 h7
    refine e_tableK (pc := 1) (tgt := 59) (c := 3) (off := 58) dX11_count_1 h7 (by decide) (by decide) (by decide) (by decide) ?_
    refine e_aload_n (pc := 59) (i := 0) dX11_count_59 rfl rfl ?_
    have k8 := hv.1
    replace hv := hv.2
    refine e_getI (pc := 60) dX11_count_60 fRX11_275 rfl k8 ?_
    exact e_ireturn (pc := 63) dX11_count_63 rfl ⟨_, rfl, hv⟩
  replace hv := hv.2
  by_cases h9 : a1 = 4
  · replace hv := hv.1 h9
    refine e_tableK (pc := 1) (tgt := 64) (c := 4) (off := 63) dX11_count_1 h9 (by decide) (by decide) (by decide) (by decide) ?_
    refine e_aload_n (pc := 64) (i := 0) dX11_count_64 rfl rfl ?_
    have k12 := hv.1
    replace hv := hv.2
    refine e_callVi (pc := 65) (ci := 11) (st := []) (rc' := 0) (rs' := 0) (B' := bX11_dateNow) [] dX11_count_65 vRX11_252 kX11_dateNow (by decide) rfl k12 rfl rfl (Nat.le_of_ble_eq_true rfl) ⟨Nat.le_of_ble_eq_true rfl, Nat.le_of_ble_eq_true rfl⟩ rfl rfl hv (fun x11 w10 hv => ?_)
    exact e_ireturn (pc := 68) dX11_count_68 rfl ⟨_, rfl, hv⟩
  replace hv := hv.2
  by_cases h13 : a1 = 5
  · replace hv := hv.1 h13
    refine e_tableK (pc := 1) (tgt := 69) (c := 5) (off := 68) dX11_count_1 h13 (by decide) (by decide) (by decide) (by decide) ?_
    refine e_aload_n (pc := 69) (i := 0) dX11_count_69 rfl rfl ?_
    have k14 := hv.1
    replace hv := hv.2
    refine e_getI (pc := 70) dX11_count_70 fRX11_362 rfl k14 ?_
    exact e_ireturn (pc := 73) dX11_count_73 rfl ⟨_, rfl, hv⟩
  replace hv := hv.2
  by_cases h15 : a1 = 6
  · replace hv := hv.1 h15
    refine e_tableK (pc := 1) (tgt := 74) (c := 6) (off := 73) dX11_count_1 h15 (by decide) (by decide) (by decide) (by decide) ?_
    refine e_aload_n (pc := 74) (i := 0) dX11_count_74 rfl rfl ?_
    have k16 := hv.1
    replace hv := hv.2
    refine e_getI (pc := 75) dX11_count_75 fRX11_290 rfl k16 ?_
    exact e_ireturn (pc := 78) dX11_count_78 rfl ⟨_, rfl, hv⟩
  replace hv := hv.2
  replace hv := hv h1 h3 h5 h7 h9 h13 h15
  refine e_tableOut (pc := 1) (tgt := 79) dX11_count_1 (by have z0 : ¬ a1.toInt = 0 := lv_neT h1 (by decide); have z1 : ¬ a1.toInt = 1 := lv_neT h3 (by decide); have z2 : ¬ a1.toInt = 2 := lv_neT h5 (by decide); have z3 : ¬ a1.toInt = 3 := lv_neT h7 (by decide); have z4 : ¬ a1.toInt = 4 := lv_neT h9 (by decide); have z5 : ¬ a1.toInt = 5 := lv_neT h13 (by decide); have z6 : ¬ a1.toInt = 6 := lv_neT h15 (by decide); omega) (by decide) ?_
  refine e_iconst (pc := 79) (v := (-1)) dX11_count_79 (by decide) ?_
  exact e_ireturn (pc := 80) dX11_count_80 rfl ⟨_, rfl, hv⟩
