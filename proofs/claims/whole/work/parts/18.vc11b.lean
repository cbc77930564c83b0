set_option maxRecDepth 100000 in
set_option maxHeartbeats 4000000 in
theorem oX11_claim (X : Cx) (A : Int32 → Wd → Prop) (a0 : Nat) (a1 : Int32) (a2 : Int32) (a3 : Int32) (w : Wd)
    (hv : wK w a0 = 12 ∧ Ct X bX11_isEntry mX11_isEntry [vR a0, vI a1] w (qI fun x2 w1 => ((¬ x2 = 0) → wK w1 a0 = 12 ∧ wK w1 (wR w1 11 3 a0) = 13 ∧ vp_in a1 (wL w1 (wR w1 11 3 a0)) ∧ ((¬ (xI w1 (wR w1 11 3 a0) a1.toNatClampNeg) = 5) → Ct X bX11_no mX11_no [vR a0, vI 4] w1 (qI fun x10 w9 => (x10 = 0 ∨ x10 = 1) ∧ A x10 w9)) ∧ (((xI w1 (wR w1 11 3 a0) a1.toNatClampNeg) = 5) → wK w1 (wR w1 11 6 a0) = 13 ∧ vp_in a1 (wL w1 (wR w1 11 6 a0)) ∧ (((xI w1 (wR w1 11 6 a0) a1.toNatClampNeg) = 0) → ((a2 < 0) → Ct X bX11_no mX11_no [vR a0, vI 5] w1 (qI fun x16 w15 => (x16 = 0 ∨ x16 = 1) ∧ A x16 w15)) ∧ ((¬ a2 < 0) → ((36500 < a2) → Ct X bX11_no mX11_no [vR a0, vI 5] w1 (qI fun x19 w18 => (x19 = 0 ∨ x19 = 1) ∧ A x19 w18)) ∧ ((¬ 36500 < a2) → ((a3 < 1) → Ct X bX11_no mX11_no [vR a0, vI 5] w1 (qI fun x22 w21 => (x22 = 0 ∨ x22 = 1) ∧ A x22 w21)) ∧ ((¬ a3 < 1) → ((a3 ≤ 30) → wK w1 (wR w1 11 23 a0) = 13 ∧ vp_in a1 (wL w1 (wR w1 11 23 a0)) ∧ (((xI w1 (wR w1 11 23 a0) a1.toNatClampNeg) = (-1)) → wK w1 (wR w1 11 20 a0) = 13 ∧ vp_in a1 (wL w1 (wR w1 11 20 a0)) ∧ ∀ w29 : Wd, w29 = yI w1 (wR w1 11 20 a0) a1.toNatClampNeg a2 → wK w29 (wR w29 11 21 a0) = 13 ∧ vp_in a1 (wL w29 (wR w29 11 21 a0)) ∧ ∀ w33 : Wd, w33 = yI w29 (wR w29 11 21 a0) a1.toNatClampNeg a3 → Ct X bX11_dateNow mX11_dateNow [vR a0] w33 (qI fun x36 w35 => wK w35 (wR w33 11 22 a0) = 13 ∧ vp_in a1 (wL w35 (wR w33 11 22 a0)) ∧ ∀ w39 : Wd, w39 = yI w35 (wR w33 11 22 a0) a1.toNatClampNeg x36 → wK w39 a0 = 12 ∧ wK w39 (wR w39 11 23 a0) = 13 ∧ vp_in a1 (wL w39 (wR w39 11 23 a0)) ∧ ∀ w43 : Wd, w43 = yI w39 (wR w39 11 23 a0) a1.toNatClampNeg (wI w39 11 39 a0) → ∀ w45 : Wd, w45 = sI w43 11 41 a0 0 → A 1 w45)) ∧ ((¬ (xI w1 (wR w1 11 23 a0) a1.toNatClampNeg) = (-1)) → Ct X bX11_no mX11_no [vR a0, vI 8] w1 (qI fun x47 w46 => (x47 = 0 ∨ x47 = 1) ∧ A x47 w46))) ∧ ((¬ a3 ≤ 30) → Ct X bX11_no mX11_no [vR a0, vI 5] w1 (qI fun x49 w48 => (x49 = 0 ∨ x49 = 1) ∧ A x49 w48)))))) ∧ ((¬ (xI w1 (wR w1 11 6 a0) a1.toNatClampNeg) = 0) → Ct X bX11_no mX11_no [vR a0, vI 4] w1 (qI fun x51 w50 => (x51 = 0 ∨ x51 = 1) ∧ A x51 w50)))) ∧ ((x2 = 0) → wK w1 a0 = 12 ∧ Ct X bX11_no mX11_no [vR a0, vI 1] w1 (qI fun x53 w52 => (x53 = 0 ∨ x53 = 1) ∧ A x53 w52)))) :
    Ct X bX11_claim mX11_claim [vR a0, vI a1, vI a2, vI a3] w (qI A) := by
  refine Ct.of (lv := [(0, vR a0), (1, vI a1), (2, vI a2), (3, vI a3)]) rfl (Nat.le_of_ble_eq_true rfl) rfl ?_
  refine e_aload_n (pc := 0) (i := 0) dX11_claim_0 rfl rfl ?_
  refine e_iload_n (pc := 1) (i := 1) dX11_claim_1 rfl rfl ?_
  have k3 := hv.1
  replace hv := hv.2
  refine e_callVi (pc := 2) (ci := 11) (st := []) (rc' := 0) (rs' := 0) (B' := bX11_isEntry) [vI a1] dX11_claim_2 vRX11_224 kX11_isEntry (by decide) rfl k3 rfl rfl (Nat.le_of_ble_eq_true rfl) ⟨Nat.le_of_ble_eq_true rfl, Nat.le_of_ble_eq_true rfl⟩ rfl rfl hv (fun x2 w1 hv => ?_)
  refine e_if_ne (pc := 5) (tgt := 14) dX11_claim_5 (by decide) (fun h4 => ?_) (fun h4 => ?_)
  · replace hv := hv.1 h4
    refine e_aload_n (pc := 14) (i := 0) dX11_claim_14 rfl rfl ?_
    have k5 := hv.1
    replace hv := hv.2
    refine e_getR (pc := 15) dX11_claim_15 fRX11_17 rfl k5 ?_
    refine e_iload_n (pc := 18) (i := 1) dX11_claim_18 rfl rfl ?_
    have k6 := hv.1
    replace hv := hv.2
    have hi7 := hv.1
    replace hv := hv.2
    refine e_iald (pc := 19) dX11_claim_19 k6 hi7 ?_
    refine e_iconst (pc := 20) (v := 5) dX11_claim_20 (by decide) ?_
    refine e_icmp_ne (pc := 21) (tgt := 33) dX11_claim_21 (by decide) (fun h8 => ?_) (fun h8 => ?_)
    · replace hv := hv.1 h8
      refine e_aload_n (pc := 33) (i := 0) dX11_claim_33 rfl rfl ?_
      refine e_iconst (pc := 34) (v := 4) dX11_claim_34 (by decide) ?_
      refine e_callVi (pc := 35) (ci := 11) (st := []) (rc' := 0) (rs' := 0) (B' := bX11_no) [vI 4] dX11_claim_35 vRX11_238 kX11_no (by decide) rfl k5 rfl rfl (Nat.le_of_ble_eq_true rfl) ⟨Nat.le_of_ble_eq_true rfl, Nat.le_of_ble_eq_true rfl⟩ rfl rfl hv (fun x10 w9 hv => ?_)
      exact e_zreturn (pc := 38) dX11_claim_38 rfl hv.1 ⟨_, rfl, hv.2⟩
    · replace hv := hv.2 h8
      refine e_aload_n (pc := 24) (i := 0) dX11_claim_24 rfl rfl ?_
      refine e_getR (pc := 25) dX11_claim_25 fRX11_26 rfl k5 ?_
      refine e_iload_n (pc := 28) (i := 1) dX11_claim_28 rfl rfl ?_
      have k11 := hv.1
      replace hv := hv.2
      have hi12 := hv.1
      replace hv := hv.2
      refine e_iald (pc := 29) dX11_claim_29 k11 hi12 ?_
      refine e_if_eq (pc := 30) (tgt := 39) dX11_claim_30 (by decide) (fun h13 => ?_) (fun h13 => ?_)
      · replace hv := hv.1 h13
        refine e_iload_n (pc := 39) (i := 2) dX11_claim_39 rfl rfl ?_
        refine e_if_lt (pc := 40) (tgt := 60) dX11_claim_40 (by decide) (fun h14 => ?_) (fun h14 => ?_)
        · replace hv := hv.1 h14
          refine e_aload_n (pc := 60) (i := 0) dX11_claim_60 rfl rfl ?_
          refine e_iconst (pc := 61) (v := 5) dX11_claim_61 (by decide) ?_
          refine e_callVi (pc := 62) (ci := 11) (st := []) (rc' := 0) (rs' := 0) (B' := bX11_no) [vI 5] dX11_claim_62 vRX11_238 kX11_no (by decide) rfl k5 rfl rfl (Nat.le_of_ble_eq_true rfl) ⟨Nat.le_of_ble_eq_true rfl, Nat.le_of_ble_eq_true rfl⟩ rfl rfl hv (fun x16 w15 hv => ?_)
          exact e_zreturn (pc := 65) dX11_claim_65 rfl hv.1 ⟨_, rfl, hv.2⟩
        · replace hv := hv.2 h14
          refine e_iload_n (pc := 43) (i := 2) dX11_claim_43 rfl rfl ?_
          refine e_ldc (pc := 44) (v := 36500) dX11_claim_44 (tb_a5 163 (by decide +kernel) rfl) ?_
          refine e_icmp_gt (pc := 46) (tgt := 60) dX11_claim_46 (by decide) (fun h17 => ?_) (fun h17 => ?_)
          · replace hv := hv.1 h17
            refine e_aload_n (pc := 60) (i := 0) dX11_claim_60 rfl rfl ?_
            refine e_iconst (pc := 61) (v := 5) dX11_claim_61 (by decide) ?_
            refine e_callVi (pc := 62) (ci := 11) (st := []) (rc' := 0) (rs' := 0) (B' := bX11_no) [vI 5] dX11_claim_62 vRX11_238 kX11_no (by decide) rfl k5 rfl rfl (Nat.le_of_ble_eq_true rfl) ⟨Nat.le_of_ble_eq_true rfl, Nat.le_of_ble_eq_true rfl⟩ rfl rfl hv (fun x19 w18 hv => ?_)
            exact e_zreturn (pc := 65) dX11_claim_65 rfl hv.1 ⟨_, rfl, hv.2⟩
          · replace hv := hv.2 h17
            refine e_iload_n (pc := 49) (i := 3) dX11_claim_49 rfl rfl ?_
            refine e_iconst (pc := 50) (v := 1) dX11_claim_50 (by decide) ?_
            refine e_icmp_lt (pc := 51) (tgt := 60) dX11_claim_51 (by decide) (fun h20 => ?_) (fun h20 => ?_)
            · replace hv := hv.1 h20
              refine e_aload_n (pc := 60) (i := 0) dX11_claim_60 rfl rfl ?_
              refine e_iconst (pc := 61) (v := 5) dX11_claim_61 (by decide) ?_
              refine e_callVi (pc := 62) (ci := 11) (st := []) (rc' := 0) (rs' := 0) (B' := bX11_no) [vI 5] dX11_claim_62 vRX11_238 kX11_no (by decide) rfl k5 rfl rfl (Nat.le_of_ble_eq_true rfl) ⟨Nat.le_of_ble_eq_true rfl, Nat.le_of_ble_eq_true rfl⟩ rfl rfl hv (fun x22 w21 hv => ?_)
              exact e_zreturn (pc := 65) dX11_claim_65 rfl hv.1 ⟨_, rfl, hv.2⟩
            · replace hv := hv.2 h20
              refine e_iload_n (pc := 54) (i := 3) dX11_claim_54 rfl rfl ?_
              refine e_bipush (pc := 55) (v := 30) dX11_claim_55 (by decide) ?_
              refine e_icmp_le (pc := 57) (tgt := 66) dX11_claim_57 (by decide) (fun h23 => ?_) (fun h23 => ?_)
              · replace hv := hv.1 h23
                refine e_aload_n (pc := 66) (i := 0) dX11_claim_66 rfl rfl ?_
                refine e_getR (pc := 67) dX11_claim_67 fRX11_78 rfl k5 ?_
                refine e_iload_n (pc := 70) (i := 1) dX11_claim_70 rfl rfl ?_
                have k24 := hv.1
                replace hv := hv.2
                have hi25 := hv.1
                replace hv := hv.2
                refine e_iald (pc := 71) dX11_claim_71 k24 hi25 ?_
                refine e_iconst (pc := 72) (v := (-1)) dX11_claim_72 (by decide) ?_
                refine e_icmp_eq (pc := 73) (tgt := 83) dX11_claim_73 (by decide) (fun h26 => ?_) (fun h26 => ?_)
                · replace hv := hv.1 h26
                  refine e_aload_n (pc := 83) (i := 0) dX11_claim_83 rfl rfl ?_
                  refine e_getR (pc := 84) dX11_claim_84 fRX11_69 rfl k5 ?_
                  refine e_iload_n (pc := 87) (i := 1) dX11_claim_87 rfl rfl ?_
                  refine e_iload_n (pc := 88) (i := 2) dX11_claim_88 rfl rfl ?_
                  have k27 := hv.1
                  replace hv := hv.2
                  have hi28 := hv.1
                  replace hv := hv.2
                  obtain ⟨w29, hw29⟩ : ∃ w29 : Wd, w29 = yI w1 (wR w1 11 20 a0) a1.toNatClampNeg a2 := ⟨_, rfl⟩
                  replace hv := hv w29 hw29
                  refine e_iast (pc := 89) dX11_claim_89 k27 hi28 ?_
                  rw [← hw29]
                  refine e_aload_n (pc := 90) (i := 0) dX11_claim_90 rfl rfl ?_
                  have k30 : wK w29 a0 = 12 := (by rw [hw29]; exact k5)
                  refine e_getR (pc := 91) dX11_claim_91 fRX11_72 rfl k30 ?_
                  refine e_iload_n (pc := 94) (i := 1) dX11_claim_94 rfl rfl ?_
                  refine e_iload_n (pc := 95) (i := 3) dX11_claim_95 rfl rfl ?_
                  have k31 := hv.1
                  replace hv := hv.2
                  have hi32 := hv.1
                  replace hv := hv.2
                  obtain ⟨w33, hw33⟩ : ∃ w33 : Wd, w33 = yI w29 (wR w29 11 21 a0) a1.toNatClampNeg a3 := ⟨_, rfl⟩
                  replace hv := hv w33 hw33
                  refine e_iast (pc := 96) dX11_claim_96 k31 hi32 ?_
                  rw [← hw33]
                  refine e_aload_n (pc := 97) (i := 0) dX11_claim_97 rfl rfl ?_
                  have k34 : wK w33 a0 = 12 := (by rw [hw33]; exact k30)
                  refine e_getR (pc := 98) dX11_claim_98 fRX11_75 rfl k34 ?_
                  refine e_iload_n (pc := 101) (i := 1) dX11_claim_101 rfl rfl ?_
                  refine e_aload_n (pc := 102) (i := 0) dX11_claim_102 rfl rfl ?_
                  refine e_callVi (pc := 103) (ci := 11) (st := [vI a1, vR (wR w33 11 22 a0)]) (rc' := 0) (rs' := 0) (B' := bX11_dateNow) [] dX11_claim_103 vRX11_252 kX11_dateNow (by decide) rfl k34 rfl rfl (Nat.le_of_ble_eq_true rfl) ⟨Nat.le_of_ble_eq_true rfl, Nat.le_of_ble_eq_true rfl⟩ rfl rfl hv (fun x36 w35 hv => ?_)
                  have k37 := hv.1
                  replace hv := hv.2
                  have hi38 := hv.1
                  replace hv := hv.2
                  obtain ⟨w39, hw39⟩ : ∃ w39 : Wd, w39 = yI w35 (wR w33 11 22 a0) a1.toNatClampNeg x36 := ⟨_, rfl⟩
                  replace hv := hv w39 hw39
                  refine e_iast (pc := 106) dX11_claim_106 k37 hi38 ?_
                  rw [← hw39]
                  refine e_aload_n (pc := 107) (i := 0) dX11_claim_107 rfl rfl ?_
                  have k40 := hv.1
                  replace hv := hv.2
                  refine e_getR (pc := 108) dX11_claim_108 fRX11_78 rfl k40 ?_
                  refine e_iload_n (pc := 111) (i := 1) dX11_claim_111 rfl rfl ?_
                  refine e_aload_n (pc := 112) (i := 0) dX11_claim_112 rfl rfl ?_
                  refine e_getI (pc := 113) dX11_claim_113 fRX11_166 rfl k40 ?_
                  have k41 := hv.1
                  replace hv := hv.2
                  have hi42 := hv.1
                  replace hv := hv.2
                  obtain ⟨w43, hw43⟩ : ∃ w43 : Wd, w43 = yI w39 (wR w39 11 23 a0) a1.toNatClampNeg (wI w39 11 39 a0) := ⟨_, rfl⟩
                  replace hv := hv w43 hw43
                  refine e_iast (pc := 116) dX11_claim_116 k41 hi42 ?_
                  rw [← hw43]
                  refine e_aload_n (pc := 117) (i := 0) dX11_claim_117 rfl rfl ?_
                  refine e_iconst (pc := 118) (v := 0) dX11_claim_118 (by decide) ?_
                  have k44 : wK w43 a0 = 12 := (by rw [hw43]; exact k40)
                  obtain ⟨w45, hw45⟩ : ∃ w45 : Wd, w45 = sI w43 11 41 a0 0 := ⟨_, rfl⟩
                  replace hv := hv w45 hw45
                  refine e_putI (pc := 119) dX11_claim_119 fRX11_163 (Or.inl rfl) rfl k44 ?_
                  rw [← hw45]
                  refine e_iconst (pc := 122) (v := 1) dX11_claim_122 (by decide) ?_
                  exact e_zreturn (pc := 123) dX11_claim_123 rfl (Or.inr rfl) ⟨_, rfl, hv⟩
                · replace hv := hv.2 h26
                  refine e_aload_n (pc := 76) (i := 0) dX11_claim_76 rfl rfl ?_
                  refine e_bipush (pc := 77) (v := 8) dX11_claim_77 (by decide) ?_
                  refine e_callVi (pc := 79) (ci := 11) (st := []) (rc' := 0) (rs' := 0) (B' := bX11_no) [vI 8] dX11_claim_79 vRX11_238 kX11_no (by decide) rfl k5 rfl rfl (Nat.le_of_ble_eq_true rfl) ⟨Nat.le_of_ble_eq_true rfl, Nat.le_of_ble_eq_true rfl⟩ rfl rfl hv (fun x47 w46 hv => ?_)
                  exact e_zreturn (pc := 82) dX11_claim_82 rfl hv.1 ⟨_, rfl, hv.2⟩
              · replace hv := hv.2 h23
                refine e_aload_n (pc := 60) (i := 0) dX11_claim_60 rfl rfl ?_
                refine e_iconst (pc := 61) (v := 5) dX11_claim_61 (by decide) ?_
                refine e_callVi (pc := 62) (ci := 11) (st := []) (rc' := 0) (rs' := 0) (B' := bX11_no) [vI 5] dX11_claim_62 vRX11_238 kX11_no (by decide) rfl k5 rfl rfl (Nat.le_of_ble_eq_true rfl) ⟨Nat.le_of_ble_eq_true rfl, Nat.le_of_ble_eq_true rfl⟩ rfl rfl hv (fun x49 w48 hv => ?_)
                exact e_zreturn (pc := 65) dX11_claim_65 rfl hv.1 ⟨_, rfl, hv.2⟩
      · replace hv := hv.2 h13
        refine e_aload_n (pc := 33) (i := 0) dX11_claim_33 rfl rfl ?_
        refine e_iconst (pc := 34) (v := 4) dX11_claim_34 (by decide) ?_
        refine e_callVi (pc := 35) (ci := 11) (st := []) (rc' := 0) (rs' := 0) (B' := bX11_no) [vI 4] dX11_claim_35 vRX11_238 kX11_no (by decide) rfl k5 rfl rfl (Nat.le_of_ble_eq_true rfl) ⟨Nat.le_of_ble_eq_true rfl, Nat.le_of_ble_eq_true rfl⟩ rfl rfl hv (fun x51 w50 hv => ?_)
        exact e_zreturn (pc := 38) dX11_claim_38 rfl hv.1 ⟨_, rfl, hv.2⟩
  · replace hv := hv.2 h4
    refine e_aload_n (pc := 8) (i := 0) dX11_claim_8 rfl rfl ?_
    refine e_iconst (pc := 9) (v := 1) dX11_claim_9 (by decide) ?_
    have k54 := hv.1
    replace hv := hv.2
    refine e_callVi (pc := 10) (ci := 11) (st := []) (rc' := 0) (rs' := 0) (B' := bX11_no) [vI 1] dX11_claim_10 vRX11_238 kX11_no (by decide) rfl k54 rfl rfl (Nat.le_of_ble_eq_true rfl) ⟨Nat.le_of_ble_eq_true rfl, Nat.le_of_ble_eq_true rfl⟩ rfl rfl hv (fun x53 w52 hv => ?_)
    exact e_zreturn (pc := 13) dX11_claim_13 rfl hv.1 ⟨_, rfl, hv.2⟩
set_option maxRecDepth 100000 in
set_option maxHeartbeats 4000000 in
theorem oX11_livesNow (X : Cx) (A : Int32 → Wd → Prop) (a0 : Nat) (a1 : Int32) (w : Wd)
    (hv : wK w a0 = 12 ∧ Ct X bX11_now mX11_now [vR a0] w (qV fun w1 => wK w1 a0 = 12 ∧ Ct X bX11_lives mX11_lives [vR a0, vI a1] w1 (qI fun x5 w4 => (x5 = 0 ∨ x5 = 1) ∧ A x5 w4))) :
    Ct X bX11_livesNow mX11_livesNow [vR a0, vI a1] w (qI A) := by
  refine Ct.of (lv := [(0, vR a0), (1, vI a1)]) rfl (Nat.le_of_ble_eq_true rfl) rfl ?_
  refine e_aload_n (pc := 0) (i := 0) dX11_livesNow_0 rfl rfl ?_
  have k3 := hv.1
  replace hv := hv.2
  refine e_callVv (pc := 1) (ci := 11) (st := []) (rc' := 0) (rs' := 0) (B' := bX11_now) [] dX11_livesNow_1 vRX11_257 kX11_now (by decide) rfl k3 rfl rfl (Nat.le_of_ble_eq_true rfl) ⟨Nat.le_of_ble_eq_true rfl, Nat.le_of_ble_eq_true rfl⟩ rfl rfl hv (fun w1 hv => ?_)
  refine e_aload_n (pc := 4) (i := 0) dX11_livesNow_4 rfl rfl ?_
  refine e_iload_n (pc := 5) (i := 1) dX11_livesNow_5 rfl rfl ?_
  have k6 := hv.1
  replace hv := hv.2
  refine e_callVi (pc := 6) (ci := 11) (st := []) (rc' := 0) (rs' := 0) (B' := bX11_lives) [vI a1] dX11_livesNow_6 vRX11_195 kX11_lives (by decide) rfl k6 rfl rfl (Nat.le_of_ble_eq_true rfl) ⟨Nat.le_of_ble_eq_true rfl, Nat.le_of_ble_eq_true rfl⟩ rfl rfl hv (fun x5 w4 hv => ?_)
  exact e_zreturn (pc := 9) dX11_livesNow_9 rfl hv.1 ⟨_, rfl, hv.2⟩
set_option maxRecDepth 100000 in
set_option maxHeartbeats 4000000 in
theorem oX11_owe (X : Cx) (A : Int32 → Wd → Prop) (a0 : Nat) (a1 : Int32) (a2 : Int64) (w : Wd)
    (hv : wK w a0 = 12 ∧ Ct X bX11_isEntry mX11_isEntry [vR a0, vI a1] w (qI fun x2 w1 => ((¬ x2 = 0) → wK w1 a0 = 12 ∧ wK w1 (wR w1 11 5 a0) = 13 ∧ vp_in a1 (wL w1 (wR w1 11 5 a0)) ∧ wK w1 (wR w1 11 3 a0) = 13 ∧ vp_in a1 (wL w1 (wR w1 11 3 a0)) ∧ (((xI w1 (wR w1 11 3 a0) a1.toNatClampNeg) = 3) → (((lg_cmp a2 0) < 0) → Ct X bX11_no mX11_no [vR a0, vI 5] w1 (qI fun x13 w12 => (x13 = 0 ∨ x13 = 1) ∧ A x13 w12)) ∧ ((¬ (lg_cmp a2 0) < 0) → wK w1 (wR w1 11 12 a0) = 14 ∧ vp_in (xI w1 (wR w1 11 5 a0) a1.toNatClampNeg) (wL w1 (wR w1 11 12 a0)) ∧ (((lg_cmp a2 (xJ w1 (wR w1 11 12 a0) (xI w1 (wR w1 11 5 a0) a1.toNatClampNeg).toNatClampNeg)) ≤ 0) → Ct X bX11_livesNow mX11_livesNow [vR a0, vI a1] w1 (qI fun x18 w17 => ((¬ x18 = 0) → wK w17 a0 = 12 ∧ wK w17 (wR w17 11 9 a0) = 13 ∧ vp_in a1 (wL w17 (wR w17 11 9 a0)) ∧ ((¬ (xI w17 (wR w17 11 9 a0) a1.toNatClampNeg) = 0) → Ct X bX11_no mX11_no [vR a0, vI 8] w17 (qI fun x25 w24 => (x25 = 0 ∨ x25 = 1) ∧ A x25 w24)) ∧ (((xI w17 (wR w17 11 9 a0) a1.toNatClampNeg) = 0) → Ct X bX11_sumBelow mX11_sumBelow [vR a0, vI (xI w1 (wR w1 11 5 a0) a1.toNatClampNeg)] w17 (qJ fun x27 w26 => wK w26 a0 = 12 ∧ wK w26 (wR w26 11 8 a0) = 14 ∧ vp_in a1 (wL w26 (wR w26 11 8 a0)) ∧ wK w26 (wR w26 11 12 a0) = 14 ∧ vp_in (xI w1 (wR w1 11 5 a0) a1.toNatClampNeg) (wL w26 (wR w26 11 12 a0)) ∧ (((lg_cmp ((x27 - (xJ w26 (wR w26 11 8 a0) a1.toNatClampNeg)) + a2) (xJ w26 (wR w26 11 12 a0) (xI w1 (wR w1 11 5 a0) a1.toNatClampNeg).toNatClampNeg)) ≤ 0) → vp_in a1 (wL w26 (wR w26 11 8 a0)) ∧ ∀ w35 : Wd, w35 = yJ w26 (wR w26 11 8 a0) a1.toNatClampNeg a2 → ∀ w37 : Wd, w37 = sI w35 11 41 a0 0 → A 1 w37) ∧ ((¬ (lg_cmp ((x27 - (xJ w26 (wR w26 11 8 a0) a1.toNatClampNeg)) + a2) (xJ w26 (wR w26 11 12 a0) (xI w1 (wR w1 11 5 a0) a1.toNatClampNeg).toNatClampNeg)) ≤ 0) → Ct X bX11_no mX11_no [vR a0, vI 8] w26 (qI fun x39 w38 => (x39 = 0 ∨ x39 = 1) ∧ A x39 w38))))) ∧ ((x18 = 0) → wK w17 a0 = 12 ∧ Ct X bX11_no mX11_no [vR a0, vI 6] w17 (qI fun x41 w40 => (x41 = 0 ∨ x41 = 1) ∧ A x41 w40)))) ∧ ((¬ (lg_cmp a2 (xJ w1 (wR w1 11 12 a0) (xI w1 (wR w1 11 5 a0) a1.toNatClampNeg).toNatClampNeg)) ≤ 0) → Ct X bX11_no mX11_no [vR a0, vI 5] w1 (qI fun x44 w43 => (x44 = 0 ∨ x44 = 1) ∧ A x44 w43)))) ∧ ((¬ (xI w1 (wR w1 11 3 a0) a1.toNatClampNeg) = 3) → Ct X bX11_no mX11_no [vR a0, vI 4] w1 (qI fun x46 w45 => (x46 = 0 ∨ x46 = 1) ∧ A x46 w45))) ∧ ((x2 = 0) → wK w1 a0 = 12 ∧ Ct X bX11_no mX11_no [vR a0, vI 1] w1 (qI fun x48 w47 => (x48 = 0 ∨ x48 = 1) ∧ A x48 w47)))) :
    Ct X bX11_owe mX11_owe [vR a0, vI a1, vJ a2] w (qI A) := by
  refine Ct.of (lv := [(0, vR a0), (1, vI a1), (2, vJ a2)]) rfl (Nat.le_of_ble_eq_true rfl) rfl ?_
  refine e_aload_n (pc := 0) (i := 0) dX11_owe_0 rfl rfl ?_
  refine e_iload_n (pc := 1) (i := 1) dX11_owe_1 rfl rfl ?_
  have k3 := hv.1
  replace hv := hv.2
  refine e_callVi (pc := 2) (ci := 11) (st := []) (rc' := 0) (rs' := 0) (B' := bX11_isEntry) [vI a1] dX11_owe_2 vRX11_224 kX11_isEntry (by decide) rfl k3 rfl rfl (Nat.le_of_ble_eq_true rfl) ⟨Nat.le_of_ble_eq_true rfl, Nat.le_of_ble_eq_true rfl⟩ rfl rfl hv (fun x2 w1 hv => ?_)
  refine e_if_ne (pc := 5) (tgt := 14) dX11_owe_5 (by decide) (fun h4 => ?_) (fun h4 => ?_)
  · replace hv := hv.1 h4
    refine e_aload_n (pc := 14) (i := 0) dX11_owe_14 rfl rfl ?_
    have k5 := hv.1
    replace hv := hv.2
    refine e_getR (pc := 15) dX11_owe_15 fRX11_23 rfl k5 ?_
    refine e_iload_n (pc := 18) (i := 1) dX11_owe_18 rfl rfl ?_
    have k6 := hv.1
    replace hv := hv.2
    have hi7 := hv.1
    replace hv := hv.2
    refine e_iald (pc := 19) dX11_owe_19 k6 hi7 ?_
    refine e_istore (pc := 20) (i := 4) (lv' := [(0, vR a0), (1, vI a1), (2, vJ a2), (4, vI (xI w1 (wR w1 11 5 a0) a1.toNatClampNeg))]) dX11_owe_20 (by decide) rfl ?_
    refine e_aload_n (pc := 22) (i := 0) dX11_owe_22 rfl rfl ?_
    refine e_getR (pc := 23) dX11_owe_23 fRX11_17 rfl k5 ?_
    refine e_iload_n (pc := 26) (i := 1) dX11_owe_26 rfl rfl ?_
    have k8 := hv.1
    replace hv := hv.2
    have hi9 := hv.1
    replace hv := hv.2
    refine e_iald (pc := 27) dX11_owe_27 k8 hi9 ?_
    refine e_iconst (pc := 28) (v := 3) dX11_owe_28 (by decide) ?_
    refine e_icmp_eq (pc := 29) (tgt := 38) dX11_owe_29 (by decide) (fun h10 => ?_) (fun h10 => ?_)
    · replace hv := hv.1 h10
      refine e_lload_n (pc := 38) (i := 2) dX11_owe_38 rfl rfl ?_
      refine e_lconst (pc := 39) (v := 0) dX11_owe_39 (by decide) ?_
      refine e_lcmp (pc := 40) dX11_owe_40 ?_
      refine e_if_lt (pc := 41) (tgt := 56) dX11_owe_41 (by decide) (fun h11 => ?_) (fun h11 => ?_)
      · replace hv := hv.1 h11
        refine e_aload_n (pc := 56) (i := 0) dX11_owe_56 rfl rfl ?_
        refine e_iconst (pc := 57) (v := 5) dX11_owe_57 (by decide) ?_
        refine e_callVi (pc := 58) (ci := 11) (st := []) (rc' := 0) (rs' := 0) (B' := bX11_no) [vI 5] dX11_owe_58 vRX11_238 kX11_no (by decide) rfl k5 rfl rfl (Nat.le_of_ble_eq_true rfl) ⟨Nat.le_of_ble_eq_true rfl, Nat.le_of_ble_eq_true rfl⟩ rfl rfl hv (fun x13 w12 hv => ?_)
        exact e_zreturn (pc := 61) dX11_owe_61 rfl hv.1 ⟨_, rfl, hv.2⟩
      · replace hv := hv.2 h11
        refine e_lload_n (pc := 44) (i := 2) dX11_owe_44 rfl rfl ?_
        refine e_aload_n (pc := 45) (i := 0) dX11_owe_45 rfl rfl ?_
        refine e_getR (pc := 46) dX11_owe_46 fRX11_45 rfl k5 ?_
        refine e_iload (pc := 49) (i := 4) dX11_owe_49 rfl ?_
        have k14 := hv.1
        replace hv := hv.2
        have hi15 := hv.1
        replace hv := hv.2
        refine e_lald (pc := 51) dX11_owe_51 k14 hi15 ?_
        refine e_lcmp (pc := 52) dX11_owe_52 ?_
        refine e_if_le (pc := 53) (tgt := 62) dX11_owe_53 (by decide) (fun h16 => ?_) (fun h16 => ?_)
        · replace hv := hv.1 h16
          refine e_aload_n (pc := 62) (i := 0) dX11_owe_62 rfl rfl ?_
          refine e_iload_n (pc := 63) (i := 1) dX11_owe_63 rfl rfl ?_
          refine e_callVi (pc := 64) (ci := 11) (st := []) (rc' := 0) (rs' := 0) (B' := bX11_livesNow) [vI a1] dX11_owe_64 vRX11_260 kX11_livesNow (by decide) rfl k5 rfl rfl (Nat.le_of_ble_eq_true rfl) ⟨Nat.le_of_ble_eq_true rfl, Nat.le_of_ble_eq_true rfl⟩ rfl rfl hv (fun x18 w17 hv => ?_)
          refine e_if_ne (pc := 67) (tgt := 77) dX11_owe_67 (by decide) (fun h19 => ?_) (fun h19 => ?_)
          · replace hv := hv.1 h19
            refine e_aload_n (pc := 77) (i := 0) dX11_owe_77 rfl rfl ?_
            have k20 := hv.1
            replace hv := hv.2
            refine e_getR (pc := 78) dX11_owe_78 fRX11_36 rfl k20 ?_
            refine e_iload_n (pc := 81) (i := 1) dX11_owe_81 rfl rfl ?_
            have k21 := hv.1
            replace hv := hv.2
            have hi22 := hv.1
            replace hv := hv.2
            refine e_iald (pc := 82) dX11_owe_82 k21 hi22 ?_
            refine e_if_ne (pc := 83) (tgt := 112) dX11_owe_83 (by decide) (fun h23 => ?_) (fun h23 => ?_)
            · replace hv := hv.1 h23
              refine e_aload_n (pc := 112) (i := 0) dX11_owe_112 rfl rfl ?_
              refine e_bipush (pc := 113) (v := 8) dX11_owe_113 (by decide) ?_
              refine e_callVi (pc := 115) (ci := 11) (st := []) (rc' := 0) (rs' := 0) (B' := bX11_no) [vI 8] dX11_owe_115 vRX11_238 kX11_no (by decide) rfl k20 rfl rfl (Nat.le_of_ble_eq_true rfl) ⟨Nat.le_of_ble_eq_true rfl, Nat.le_of_ble_eq_true rfl⟩ rfl rfl hv (fun x25 w24 hv => ?_)
              exact e_zreturn (pc := 118) dX11_owe_118 rfl hv.1 ⟨_, rfl, hv.2⟩
            · replace hv := hv.2 h23
              refine e_aload_n (pc := 86) (i := 0) dX11_owe_86 rfl rfl ?_
              refine e_iload (pc := 87) (i := 4) dX11_owe_87 rfl ?_
              refine e_callVj (pc := 89) (ci := 11) (st := []) (rc' := 0) (rs' := 0) (B' := bX11_sumBelow) [vI (xI w1 (wR w1 11 5 a0) a1.toNatClampNeg)] dX11_owe_89 vRX11_263 kX11_sumBelow (by decide) rfl k20 rfl rfl (Nat.le_of_ble_eq_true rfl) ⟨Nat.le_of_ble_eq_true rfl, Nat.le_of_ble_eq_true rfl⟩ rfl rfl hv (fun x27 w26 hv => ?_)
              refine e_aload_n (pc := 92) (i := 0) dX11_owe_92 rfl rfl ?_
              have k28 := hv.1
              replace hv := hv.2
              refine e_getR (pc := 93) dX11_owe_93 fRX11_32 rfl k28 ?_
              refine e_iload_n (pc := 96) (i := 1) dX11_owe_96 rfl rfl ?_
              have k29 := hv.1
              replace hv := hv.2
              have hi30 := hv.1
              replace hv := hv.2
              refine e_lald (pc := 97) dX11_owe_97 k29 hi30 ?_
              refine e_lsub (pc := 98) dX11_owe_98 ?_
              refine e_lload_n (pc := 99) (i := 2) dX11_owe_99 rfl rfl ?_
              refine e_ladd (pc := 100) dX11_owe_100 ?_
              refine e_aload_n (pc := 101) (i := 0) dX11_owe_101 rfl rfl ?_
              refine e_getR (pc := 102) dX11_owe_102 fRX11_45 rfl k28 ?_
              refine e_iload (pc := 105) (i := 4) dX11_owe_105 rfl ?_
              have k31 := hv.1
              replace hv := hv.2
              have hi32 := hv.1
              replace hv := hv.2
              refine e_lald (pc := 107) dX11_owe_107 k31 hi32 ?_
              refine e_lcmp (pc := 108) dX11_owe_108 ?_
              refine e_if_le (pc := 109) (tgt := 119) dX11_owe_109 (by decide) (fun h33 => ?_) (fun h33 => ?_)
              · replace hv := hv.1 h33
                refine e_aload_n (pc := 119) (i := 0) dX11_owe_119 rfl rfl ?_
                refine e_getR (pc := 120) dX11_owe_120 fRX11_32 rfl k28 ?_
                refine e_iload_n (pc := 123) (i := 1) dX11_owe_123 rfl rfl ?_
                refine e_lload_n (pc := 124) (i := 2) dX11_owe_124 rfl rfl ?_
                have hi34 := hv.1
                replace hv := hv.2
                obtain ⟨w35, hw35⟩ : ∃ w35 : Wd, w35 = yJ w26 (wR w26 11 8 a0) a1.toNatClampNeg a2 := ⟨_, rfl⟩
                replace hv := hv w35 hw35
                refine e_last (pc := 125) dX11_owe_125 k29 hi34 ?_
                rw [← hw35]
                refine e_aload_n (pc := 126) (i := 0) dX11_owe_126 rfl rfl ?_
                refine e_iconst (pc := 127) (v := 0) dX11_owe_127 (by decide) ?_
                have k36 : wK w35 a0 = 12 := (by rw [hw35]; exact k28)
                obtain ⟨w37, hw37⟩ : ∃ w37 : Wd, w37 = sI w35 11 41 a0 0 := ⟨_, rfl⟩
                replace hv := hv w37 hw37
                refine e_putI (pc := 128) dX11_owe_128 fRX11_163 (Or.inl rfl) rfl k36 ?_
                rw [← hw37]
                refine e_iconst (pc := 131) (v := 1) dX11_owe_131 (by decide) ?_
                exact e_zreturn (pc := 132) dX11_owe_132 rfl (Or.inr rfl) ⟨_, rfl, hv⟩
              · replace hv := hv.2 h33
                refine e_aload_n (pc := 112) (i := 0) dX11_owe_112 rfl rfl ?_
                refine e_bipush (pc := 113) (v := 8) dX11_owe_113 (by decide) ?_
                refine e_callVi (pc := 115) (ci := 11) (st := []) (rc' := 0) (rs' := 0) (B' := bX11_no) [vI 8] dX11_owe_115 vRX11_238 kX11_no (by decide) rfl k28 rfl rfl (Nat.le_of_ble_eq_true rfl) ⟨Nat.le_of_ble_eq_true rfl, Nat.le_of_ble_eq_true rfl⟩ rfl rfl hv (fun x39 w38 hv => ?_)
                exact e_zreturn (pc := 118) dX11_owe_118 rfl hv.1 ⟨_, rfl, hv.2⟩
          · replace hv := hv.2 h19
            refine e_aload_n (pc := 70) (i := 0) dX11_owe_70 rfl rfl ?_
            refine e_bipush (pc := 71) (v := 6) dX11_owe_71 (by decide) ?_
            have k42 := hv.1
            replace hv := hv.2
            refine e_callVi (pc := 73) (ci := 11) (st := []) (rc' := 0) (rs' := 0) (B' := bX11_no) [vI 6] dX11_owe_73 vRX11_238 kX11_no (by decide) rfl k42 rfl rfl (Nat.le_of_ble_eq_true rfl) ⟨Nat.le_of_ble_eq_true rfl, Nat.le_of_ble_eq_true rfl⟩ rfl rfl hv (fun x41 w40 hv => ?_)
            exact e_zreturn (pc := 76) dX11_owe_76 rfl hv.1 ⟨_, rfl, hv.2⟩
        · replace hv := hv.2 h16
          refine e_aload_n (pc := 56) (i := 0) dX11_owe_56 rfl rfl ?_
          refine e_iconst (pc := 57) (v := 5) dX11_owe_57 (by decide) ?_
          refine e_callVi (pc := 58) (ci := 11) (st := []) (rc' := 0) (rs' := 0) (B' := bX11_no) [vI 5] dX11_owe_58 vRX11_238 kX11_no (by decide) rfl k5 rfl rfl (Nat.le_of_ble_eq_true rfl) ⟨Nat.le_of_ble_eq_true rfl, Nat.le_of_ble_eq_true rfl⟩ rfl rfl hv (fun x44 w43 hv => ?_)
          exact e_zreturn (pc := 61) dX11_owe_61 rfl hv.1 ⟨_, rfl, hv.2⟩
    · replace hv := hv.2 h10
      refine e_aload_n (pc := 32) (i := 0) dX11_owe_32 rfl rfl ?_
      refine e_iconst (pc := 33) (v := 4) dX11_owe_33 (by decide) ?_
      refine e_callVi (pc := 34) (ci := 11) (st := []) (rc' := 0) (rs' := 0) (B' := bX11_no) [vI 4] dX11_owe_34 vRX11_238 kX11_no (by decide) rfl k5 rfl rfl (Nat.le_of_ble_eq_true rfl) ⟨Nat.le_of_ble_eq_true rfl, Nat.le_of_ble_eq_true rfl⟩ rfl rfl hv (fun x46 w45 hv => ?_)
      exact e_zreturn (pc := 37) dX11_owe_37 rfl hv.1 ⟨_, rfl, hv.2⟩
  · replace hv := hv.2 h4
    refine e_aload_n (pc := 8) (i := 0) dX11_owe_8 rfl rfl ?_
    refine e_iconst (pc := 9) (v := 1) dX11_owe_9 (by decide) ?_
    have k49 := hv.1
    replace hv := hv.2
    refine e_callVi (pc := 10) (ci := 11) (st := []) (rc' := 0) (rs' := 0) (B' := bX11_no) [vI 1] dX11_owe_10 vRX11_238 kX11_no (by decide) rfl k49 rfl rfl (Nat.le_of_ble_eq_true rfl) ⟨Nat.le_of_ble_eq_true rfl, Nat.le_of_ble_eq_true rfl⟩ rfl rfl hv (fun x48 w47 hv => ?_)
    exact e_zreturn (pc := 13) dX11_owe_13 rfl hv.1 ⟨_, rfl, hv.2⟩
set_option maxRecDepth 100000 in
set_option maxHeartbeats 4000000 in
theorem oX11_pay (X : Cx) (A : Int64 → Wd → Prop) (a0 : Nat) (a1 : Int32) (a2 : Int64) (w : Wd)
    (hv : wK w a0 = 12 ∧ Ct X bX11_isEntry mX11_isEntry [vR a0, vI a1] w (qI fun x2 w1 => ((¬ x2 = 0) → wK w1 a0 = 12 ∧ wK w1 (wR w1 11 3 a0) = 13 ∧ vp_in a1 (wL w1 (wR w1 11 3 a0)) ∧ (((xI w1 (wR w1 11 3 a0) a1.toNatClampNeg) = 4) → Ct X bX11_refuse mX11_refuse [vR a0, vI 4] w1 (qI fun x10 w9 => A x10.toInt64 w9)) ∧ ((¬ (xI w1 (wR w1 11 3 a0) a1.toNatClampNeg) = 4) → vp_in a1 (wL w1 (wR w1 11 3 a0)) ∧ ((¬ (xI w1 (wR w1 11 3 a0) a1.toNatClampNeg) = 6) → (((lg_cmp a2 0) < 0) → Ct X bX11_refuse mX11_refuse [vR a0, vI 5] w1 (qI fun x15 w14 => A x15.toInt64 w14)) ∧ ((¬ (lg_cmp a2 0) < 0) → Ct X bX11_sumBelow mX11_sumBelow [vR a0, vI a1] w1 (qJ fun x17 w16 => (((lg_cmp a2 x17) ≤ 0) → wK w16 a0 = 12 ∧ Ct X bX11_livesNow mX11_livesNow [vR a0, vI a1] w16 (qI fun x20 w19 => ((¬ x20 = 0) → wK w19 a0 = 12 ∧ wK w19 (wR w19 11 9 a0) = 13 ∧ vp_in a1 (wL w19 (wR w19 11 9 a0)) ∧ (((xI w19 (wR w19 11 9 a0) a1.toNatClampNeg) = 0) → wK w19 (wR w19 11 8 a0) = 14 ∧ vp_in a1 (wL w19 (wR w19 11 8 a0)) ∧ vp_in a1 (wL w19 (wR w19 11 8 a0)) ∧ ∀ w30 : Wd, w30 = yJ w19 (wR w19 11 8 a0) a1.toNatClampNeg ((xJ w19 (wR w19 11 8 a0) a1.toNatClampNeg) - a2) → ∀ w32 : Wd, w32 = sI w30 11 41 a0 0 → wK w32 (wR w32 11 8 a0) = 14 ∧ vp_in a1 (wL w32 (wR w32 11 8 a0)) ∧ A (xJ w32 (wR w32 11 8 a0) a1.toNatClampNeg) w32) ∧ ((¬ (xI w19 (wR w19 11 9 a0) a1.toNatClampNeg) = 0) → Ct X bX11_refuse mX11_refuse [vR a0, vI 8] w19 (qI fun x37 w36 => A x37.toInt64 w36))) ∧ ((x20 = 0) → wK w19 a0 = 12 ∧ Ct X bX11_refuse mX11_refuse [vR a0, vI 6] w19 (qI fun x39 w38 => A x39.toInt64 w38)))) ∧ ((¬ (lg_cmp a2 x17) ≤ 0) → wK w16 a0 = 12 ∧ Ct X bX11_refuse mX11_refuse [vR a0, vI 5] w16 (qI fun x42 w41 => A x42.toInt64 w41))))) ∧ (((xI w1 (wR w1 11 3 a0) a1.toNatClampNeg) = 6) → Ct X bX11_refuse mX11_refuse [vR a0, vI 4] w1 (qI fun x45 w44 => A x45.toInt64 w44)))) ∧ ((x2 = 0) → wK w1 a0 = 12 ∧ Ct X bX11_refuse mX11_refuse [vR a0, vI 1] w1 (qI fun x47 w46 => A x47.toInt64 w46)))) :
    Ct X bX11_pay mX11_pay [vR a0, vI a1, vJ a2] w (qJ A) := by
  refine Ct.of (lv := [(0, vR a0), (1, vI a1), (2, vJ a2)]) rfl (Nat.le_of_ble_eq_true rfl) rfl ?_
  refine e_aload_n (pc := 0) (i := 0) dX11_pay_0 rfl rfl ?_
  refine e_iload_n (pc := 1) (i := 1) dX11_pay_1 rfl rfl ?_
  have k3 := hv.1
  replace hv := hv.2
  refine e_callVi (pc := 2) (ci := 11) (st := []) (rc' := 0) (rs' := 0) (B' := bX11_isEntry) [vI a1] dX11_pay_2 vRX11_224 kX11_isEntry (by decide) rfl k3 rfl rfl (Nat.le_of_ble_eq_true rfl) ⟨Nat.le_of_ble_eq_true rfl, Nat.le_of_ble_eq_true rfl⟩ rfl rfl hv (fun x2 w1 hv => ?_)
  refine e_if_ne (pc := 5) (tgt := 15) dX11_pay_5 (by decide) (fun h4 => ?_) (fun h4 => ?_)
  · replace hv := hv.1 h4
    refine e_aload_n (pc := 15) (i := 0) dX11_pay_15 rfl rfl ?_
    have k5 := hv.1
    replace hv := hv.2
    refine e_getR (pc := 16) dX11_pay_16 fRX11_17 rfl k5 ?_
    refine e_iload_n (pc := 19) (i := 1) dX11_pay_19 rfl rfl ?_
    have k6 := hv.1
    replace hv := hv.2
    have hi7 := hv.1
    replace hv := hv.2
    refine e_iald (pc := 20) dX11_pay_20 k6 hi7 ?_
    refine e_iconst (pc := 21) (v := 4) dX11_pay_21 (by decide) ?_
    refine e_icmp_eq (pc := 22) (tgt := 36) dX11_pay_22 (by decide) (fun h8 => ?_) (fun h8 => ?_)
    · replace hv := hv.1 h8
      refine e_aload_n (pc := 36) (i := 0) dX11_pay_36 rfl rfl ?_
      refine e_iconst (pc := 37) (v := 4) dX11_pay_37 (by decide) ?_
      refine e_callVi (pc := 38) (ci := 11) (st := []) (rc' := 0) (rs' := 0) (B' := bX11_refuse) [vI 4] dX11_pay_38 vRX11_231 kX11_refuse (by decide) rfl k5 rfl rfl (Nat.le_of_ble_eq_true rfl) ⟨Nat.le_of_ble_eq_true rfl, Nat.le_of_ble_eq_true rfl⟩ rfl rfl hv (fun x10 w9 hv => ?_)
      refine e_i2l (pc := 41) dX11_pay_41 ?_
      exact e_lreturn (pc := 42) dX11_pay_42 rfl ⟨_, rfl, hv⟩
    · replace hv := hv.2 h8
      refine e_aload_n (pc := 25) (i := 0) dX11_pay_25 rfl rfl ?_
      refine e_getR (pc := 26) dX11_pay_26 fRX11_17 rfl k5 ?_
      refine e_iload_n (pc := 29) (i := 1) dX11_pay_29 rfl rfl ?_
      have hi11 := hv.1
      replace hv := hv.2
      refine e_iald (pc := 30) dX11_pay_30 k6 hi11 ?_
      refine e_bipush (pc := 31) (v := 6) dX11_pay_31 (by decide) ?_
      refine e_icmp_ne (pc := 33) (tgt := 43) dX11_pay_33 (by decide) (fun h12 => ?_) (fun h12 => ?_)
      · replace hv := hv.1 h12
        refine e_lload_n (pc := 43) (i := 2) dX11_pay_43 rfl rfl ?_
        refine e_lconst (pc := 44) (v := 0) dX11_pay_44 (by decide) ?_
        refine e_lcmp (pc := 45) dX11_pay_45 ?_
        refine e_if_lt (pc := 46) (tgt := 59) dX11_pay_46 (by decide) (fun h13 => ?_) (fun h13 => ?_)
        · replace hv := hv.1 h13
          refine e_aload_n (pc := 59) (i := 0) dX11_pay_59 rfl rfl ?_
          refine e_iconst (pc := 60) (v := 5) dX11_pay_60 (by decide) ?_
          refine e_callVi (pc := 61) (ci := 11) (st := []) (rc' := 0) (rs' := 0) (B' := bX11_refuse) [vI 5] dX11_pay_61 vRX11_231 kX11_refuse (by decide) rfl k5 rfl rfl (Nat.le_of_ble_eq_true rfl) ⟨Nat.le_of_ble_eq_true rfl, Nat.le_of_ble_eq_true rfl⟩ rfl rfl hv (fun x15 w14 hv => ?_)
          refine e_i2l (pc := 64) dX11_pay_64 ?_
          exact e_lreturn (pc := 65) dX11_pay_65 rfl ⟨_, rfl, hv⟩
        · replace hv := hv.2 h13
          refine e_lload_n (pc := 49) (i := 2) dX11_pay_49 rfl rfl ?_
          refine e_aload_n (pc := 50) (i := 0) dX11_pay_50 rfl rfl ?_
          refine e_iload_n (pc := 51) (i := 1) dX11_pay_51 rfl rfl ?_
          refine e_callVj (pc := 52) (ci := 11) (st := [vJ a2]) (rc' := 0) (rs' := 0) (B' := bX11_sumBelow) [vI a1] dX11_pay_52 vRX11_263 kX11_sumBelow (by decide) rfl k5 rfl rfl (Nat.le_of_ble_eq_true rfl) ⟨Nat.le_of_ble_eq_true rfl, Nat.le_of_ble_eq_true rfl⟩ rfl rfl hv (fun x17 w16 hv => ?_)
          refine e_lcmp (pc := 55) dX11_pay_55 ?_
          refine e_if_le (pc := 56) (tgt := 66) dX11_pay_56 (by decide) (fun h18 => ?_) (fun h18 => ?_)
          · replace hv := hv.1 h18
            refine e_aload_n (pc := 66) (i := 0) dX11_pay_66 rfl rfl ?_
            refine e_iload_n (pc := 67) (i := 1) dX11_pay_67 rfl rfl ?_
            have k21 := hv.1
            replace hv := hv.2
            refine e_callVi (pc := 68) (ci := 11) (st := []) (rc' := 0) (rs' := 0) (B' := bX11_livesNow) [vI a1] dX11_pay_68 vRX11_260 kX11_livesNow (by decide) rfl k21 rfl rfl (Nat.le_of_ble_eq_true rfl) ⟨Nat.le_of_ble_eq_true rfl, Nat.le_of_ble_eq_true rfl⟩ rfl rfl hv (fun x20 w19 hv => ?_)
            refine e_if_ne (pc := 71) (tgt := 82) dX11_pay_71 (by decide) (fun h22 => ?_) (fun h22 => ?_)
            · replace hv := hv.1 h22
              refine e_aload_n (pc := 82) (i := 0) dX11_pay_82 rfl rfl ?_
              have k23 := hv.1
              replace hv := hv.2
              refine e_getR (pc := 83) dX11_pay_83 fRX11_36 rfl k23 ?_
              refine e_iload_n (pc := 86) (i := 1) dX11_pay_86 rfl rfl ?_
              have k24 := hv.1
              replace hv := hv.2
              have hi25 := hv.1
              replace hv := hv.2
              refine e_iald (pc := 87) dX11_pay_87 k24 hi25 ?_
              refine e_if_eq (pc := 88) (tgt := 99) dX11_pay_88 (by decide) (fun h26 => ?_) (fun h26 => ?_)
              · replace hv := hv.1 h26
                refine e_aload_n (pc := 99) (i := 0) dX11_pay_99 rfl rfl ?_
                refine e_getR (pc := 100) dX11_pay_100 fRX11_32 rfl k23 ?_
                refine e_iload_n (pc := 103) (i := 1) dX11_pay_103 rfl rfl ?_
                refine e_dup2_11 (pc := 104) dX11_pay_104 rfl rfl ?_
                have k27 := hv.1
                replace hv := hv.2
                have hi28 := hv.1
                replace hv := hv.2
                refine e_lald (pc := 105) dX11_pay_105 k27 hi28 ?_
                refine e_lload_n (pc := 106) (i := 2) dX11_pay_106 rfl rfl ?_
                refine e_lsub (pc := 107) dX11_pay_107 ?_
                have hi29 := hv.1
                replace hv := hv.2
                obtain ⟨w30, hw30⟩ : ∃ w30 : Wd, w30 = yJ w19 (wR w19 11 8 a0) a1.toNatClampNeg ((xJ w19 (wR w19 11 8 a0) a1.toNatClampNeg) - a2) := ⟨_, rfl⟩
                replace hv := hv w30 hw30
                refine e_last (pc := 108) dX11_pay_108 k27 hi29 ?_
                rw [← hw30]
                refine e_aload_n (pc := 109) (i := 0) dX11_pay_109 rfl rfl ?_
                refine e_iconst (pc := 110) (v := 0) dX11_pay_110 (by decide) ?_
                have k31 : wK w30 a0 = 12 := (by rw [hw30]; exact k23)
                obtain ⟨w32, hw32⟩ : ∃ w32 : Wd, w32 = sI w30 11 41 a0 0 := ⟨_, rfl⟩
                replace hv := hv w32 hw32
                refine e_putI (pc := 111) dX11_pay_111 fRX11_163 (Or.inl rfl) rfl k31 ?_
                rw [← hw32]
                refine e_aload_n (pc := 114) (i := 0) dX11_pay_114 rfl rfl ?_
                have k33 : wK w32 a0 = 12 := (by rw [hw32]; exact k31)
                refine e_getR (pc := 115) dX11_pay_115 fRX11_32 rfl k33 ?_
                refine e_iload_n (pc := 118) (i := 1) dX11_pay_118 rfl rfl ?_
                have k34 := hv.1
                replace hv := hv.2
                have hi35 := hv.1
                replace hv := hv.2
                refine e_lald (pc := 119) dX11_pay_119 k34 hi35 ?_
                exact e_lreturn (pc := 120) dX11_pay_120 rfl ⟨_, rfl, hv⟩
              · replace hv := hv.2 h26
                refine e_aload_n (pc := 91) (i := 0) dX11_pay_91 rfl rfl ?_
                refine e_bipush (pc := 92) (v := 8) dX11_pay_92 (by decide) ?_
                refine e_callVi (pc := 94) (ci := 11) (st := []) (rc' := 0) (rs' := 0) (B' := bX11_refuse) [vI 8] dX11_pay_94 vRX11_231 kX11_refuse (by decide) rfl k23 rfl rfl (Nat.le_of_ble_eq_true rfl) ⟨Nat.le_of_ble_eq_true rfl, Nat.le_of_ble_eq_true rfl⟩ rfl rfl hv (fun x37 w36 hv => ?_)
                refine e_i2l (pc := 97) dX11_pay_97 ?_
                exact e_lreturn (pc := 98) dX11_pay_98 rfl ⟨_, rfl, hv⟩
            · replace hv := hv.2 h22
              refine e_aload_n (pc := 74) (i := 0) dX11_pay_74 rfl rfl ?_
              refine e_bipush (pc := 75) (v := 6) dX11_pay_75 (by decide) ?_
              have k40 := hv.1
              replace hv := hv.2
              refine e_callVi (pc := 77) (ci := 11) (st := []) (rc' := 0) (rs' := 0) (B' := bX11_refuse) [vI 6] dX11_pay_77 vRX11_231 kX11_refuse (by decide) rfl k40 rfl rfl (Nat.le_of_ble_eq_true rfl) ⟨Nat.le_of_ble_eq_true rfl, Nat.le_of_ble_eq_true rfl⟩ rfl rfl hv (fun x39 w38 hv => ?_)
              refine e_i2l (pc := 80) dX11_pay_80 ?_
              exact e_lreturn (pc := 81) dX11_pay_81 rfl ⟨_, rfl, hv⟩
          · replace hv := hv.2 h18
            refine e_aload_n (pc := 59) (i := 0) dX11_pay_59 rfl rfl ?_
            refine e_iconst (pc := 60) (v := 5) dX11_pay_60 (by decide) ?_
            have k43 := hv.1
            replace hv := hv.2
            refine e_callVi (pc := 61) (ci := 11) (st := []) (rc' := 0) (rs' := 0) (B' := bX11_refuse) [vI 5] dX11_pay_61 vRX11_231 kX11_refuse (by decide) rfl k43 rfl rfl (Nat.le_of_ble_eq_true rfl) ⟨Nat.le_of_ble_eq_true rfl, Nat.le_of_ble_eq_true rfl⟩ rfl rfl hv (fun x42 w41 hv => ?_)
            refine e_i2l (pc := 64) dX11_pay_64 ?_
            exact e_lreturn (pc := 65) dX11_pay_65 rfl ⟨_, rfl, hv⟩
      · replace hv := hv.2 h12
        refine e_aload_n (pc := 36) (i := 0) dX11_pay_36 rfl rfl ?_
        refine e_iconst (pc := 37) (v := 4) dX11_pay_37 (by decide) ?_
        refine e_callVi (pc := 38) (ci := 11) (st := []) (rc' := 0) (rs' := 0) (B' := bX11_refuse) [vI 4] dX11_pay_38 vRX11_231 kX11_refuse (by decide) rfl k5 rfl rfl (Nat.le_of_ble_eq_true rfl) ⟨Nat.le_of_ble_eq_true rfl, Nat.le_of_ble_eq_true rfl⟩ rfl rfl hv (fun x45 w44 hv => ?_)
        refine e_i2l (pc := 41) dX11_pay_41 ?_
        exact e_lreturn (pc := 42) dX11_pay_42 rfl ⟨_, rfl, hv⟩
  · replace hv := hv.2 h4
    refine e_aload_n (pc := 8) (i := 0) dX11_pay_8 rfl rfl ?_
    refine e_iconst (pc := 9) (v := 1) dX11_pay_9 (by decide) ?_
    have k48 := hv.1
    replace hv := hv.2
    refine e_callVi (pc := 10) (ci := 11) (st := []) (rc' := 0) (rs' := 0) (B' := bX11_refuse) [vI 1] dX11_pay_10 vRX11_231 kX11_refuse (by decide) rfl k48 rfl rfl (Nat.le_of_ble_eq_true rfl) ⟨Nat.le_of_ble_eq_true rfl, Nat.le_of_ble_eq_true rfl⟩ rfl rfl hv (fun x47 w46 hv => ?_)
    refine e_i2l (pc := 13) dX11_pay_13 ?_
    exact e_lreturn (pc := 14) dX11_pay_14 rfl ⟨_, rfl, hv⟩
abbrev jX11_paper_40 (X : Cx) (A : Int32 → Wd → Prop) (l0 : Nat) (l1 : Int32) (l2 : Int32) (w : Wd) : Prop := EJ X mX11_paper (vw X bX11_paper (qI A)) 0 0 40 [(0, vR l0), (1, vI l1), (2, vI l2)] [] w
set_option maxRecDepth 100000 in
set_option maxHeartbeats 4000000 in
theorem tX11_paper_40 (X : Cx) (A : Int32 → Wd → Prop) (l0 : Nat) (l1 : Int32) (l2 : Int32) (w : Wd)
    (hv : wK w l0 = 12 ∧ wK w (wR w 11 5 l0) = 13 ∧ vp_in l1 (wL w (wR w 11 5 l0)) ∧ ((¬ l2 = 0) → wK w (wR w 11 19 l0) = 15 ∧ vp_in (xI w (wR w 11 5 l0) l1.toNatClampNeg) (wL w (wR w 11 19 l0)) ∧ ∀ w7 : Wd, w7 = yI w (wR w 11 19 l0) (xI w (wR w 11 5 l0) l1.toNatClampNeg).toNatClampNeg (vp_nar .boolean 0) → ∀ w9 : Wd, w9 = sI w7 11 41 l0 0 → A 1 w9) ∧ ((l2 = 0) → wK w (wR w 11 19 l0) = 15 ∧ vp_in (xI w (wR w 11 5 l0) l1.toNatClampNeg) (wL w (wR w 11 19 l0)) ∧ ∀ w12 : Wd, w12 = yI w (wR w 11 19 l0) (xI w (wR w 11 5 l0) l1.toNatClampNeg).toNatClampNeg (vp_nar .boolean 1) → ∀ w14 : Wd, w14 = sI w12 11 41 l0 0 → A 1 w14)) :
    jX11_paper_40 X A l0 l1 l2 w := by
  refine e_aload_n (pc := 40) (i := 0) dX11_paper_40 rfl rfl ?_
  have k1 := hv.1
  replace hv := hv.2
  refine e_getR (pc := 41) dX11_paper_41 fRX11_66 rfl k1 ?_
  refine e_aload_n (pc := 44) (i := 0) dX11_paper_44 rfl rfl ?_
  refine e_getR (pc := 45) dX11_paper_45 fRX11_23 rfl k1 ?_
  refine e_iload_n (pc := 48) (i := 1) dX11_paper_48 rfl rfl ?_
  have k2 := hv.1
  replace hv := hv.2
  have hi3 := hv.1
  replace hv := hv.2
  refine e_iald (pc := 49) dX11_paper_49 k2 hi3 ?_
  refine e_iload_n (pc := 50) (i := 2) dX11_paper_50 rfl rfl ?_
  refine e_if_ne (pc := 51) (tgt := 58) dX11_paper_51 (by decide) (fun h4 => ?_) (fun h4 => ?_)
  · replace hv := hv.1 h4
    refine e_iconst (pc := 58) (v := 0) dX11_paper_58 (by decide) ?_
    have k5 := hv.1
    replace hv := hv.2
    have hi6 := hv.1
    replace hv := hv.2
    obtain ⟨w7, hw7⟩ : ∃ w7 : Wd, w7 = yI w (wR w 11 19 l0) (xI w (wR w 11 5 l0) l1.toNatClampNeg).toNatClampNeg (vp_nar .boolean 0) := ⟨_, rfl⟩
    replace hv := hv w7 hw7
    refine e_zast (pc := 59) dX11_paper_59 k5 hi6 ?_
    rw [← hw7]
    refine e_aload_n (pc := 60) (i := 0) dX11_paper_60 rfl rfl ?_
    refine e_iconst (pc := 61) (v := 0) dX11_paper_61 (by decide) ?_
    have k8 : wK w7 l0 = 12 := (by rw [hw7]; exact k1)
    obtain ⟨w9, hw9⟩ : ∃ w9 : Wd, w9 = sI w7 11 41 l0 0 := ⟨_, rfl⟩
    replace hv := hv w9 hw9
    refine e_putI (pc := 62) dX11_paper_62 fRX11_163 (Or.inl rfl) rfl k8 ?_
    rw [← hw9]
    refine e_iconst (pc := 65) (v := 1) dX11_paper_65 (by decide) ?_
    exact e_zreturn (pc := 66) dX11_paper_66 rfl (Or.inr rfl) ⟨_, rfl, hv⟩
  · replace hv := hv.2 h4
    refine e_iconst (pc := 54) (v := 1) dX11_paper_54 (by decide) ?_
    refine e_goto (pc := 55) (tgt := 59) dX11_paper_55 (by decide) ?_
    have k10 := hv.1
    replace hv := hv.2
    have hi11 := hv.1
    replace hv := hv.2
    obtain ⟨w12, hw12⟩ : ∃ w12 : Wd, w12 = yI w (wR w 11 19 l0) (xI w (wR w 11 5 l0) l1.toNatClampNeg).toNatClampNeg (vp_nar .boolean 1) := ⟨_, rfl⟩
    replace hv := hv w12 hw12
    refine e_zast (pc := 59) dX11_paper_59 k10 hi11 ?_
    rw [← hw12]
    refine e_aload_n (pc := 60) (i := 0) dX11_paper_60 rfl rfl ?_
    refine e_iconst (pc := 61) (v := 0) dX11_paper_61 (by decide) ?_
    have k13 : wK w12 l0 = 12 := (by rw [hw12]; exact k1)
    obtain ⟨w14, hw14⟩ : ∃ w14 : Wd, w14 = sI w12 11 41 l0 0 := ⟨_, rfl⟩
    replace hv := hv w14 hw14
    refine e_putI (pc := 62) dX11_paper_62 fRX11_163 (Or.inl rfl) rfl k13 ?_
    rw [← hw14]
    refine e_iconst (pc := 65) (v := 1) dX11_paper_65 (by decide) ?_
    exact e_zreturn (pc := 66) dX11_paper_66 rfl (Or.inr rfl) ⟨_, rfl, hv⟩
set_option maxRecDepth 100000 in
set_option maxHeartbeats 4000000 in
theorem oX11_paper (X : Cx) (A : Int32 → Wd → Prop) (a0 : Nat) (a1 : Int32) (a2 : Int32) (w : Wd)
    (hv : wK w a0 = 12 ∧ Ct X bX11_isEntry mX11_isEntry [vR a0, vI a1] w (qI fun x2 w1 => ((¬ x2 = 0) → wK w1 a0 = 12 ∧ wK w1 (wR w1 11 3 a0) = 13 ∧ vp_in a1 (wL w1 (wR w1 11 3 a0)) ∧ (((xI w1 (wR w1 11 3 a0) a1.toNatClampNeg) = 2) → jX11_paper_40 X A a0 a1 a2 w1) ∧ ((¬ (xI w1 (wR w1 11 3 a0) a1.toNatClampNeg) = 2) → vp_in a1 (wL w1 (wR w1 11 3 a0)) ∧ (((xI w1 (wR w1 11 3 a0) a1.toNatClampNeg) = 3) → jX11_paper_40 X A a0 a1 a2 w1) ∧ ((¬ (xI w1 (wR w1 11 3 a0) a1.toNatClampNeg) = 3) → Ct X bX11_no mX11_no [vR a0, vI 4] w1 (qI fun x12 w11 => (x12 = 0 ∨ x12 = 1) ∧ A x12 w11)))) ∧ ((x2 = 0) → wK w1 a0 = 12 ∧ Ct X bX11_no mX11_no [vR a0, vI 1] w1 (qI fun x14 w13 => (x14 = 0 ∨ x14 = 1) ∧ A x14 w13)))) :
    Ct X bX11_paper mX11_paper [vR a0, vI a1, vI a2] w (qI A) := by
  refine Ct.of (lv := [(0, vR a0), (1, vI a1), (2, vI a2)]) rfl (Nat.le_of_ble_eq_true rfl) rfl ?_
  refine e_aload_n (pc := 0) (i := 0) dX11_paper_0 rfl rfl ?_
  refine e_iload_n (pc := 1) (i := 1) dX11_paper_1 rfl rfl ?_
  have k3 := hv.1
  replace hv := hv.2
  refine e_callVi (pc := 2) (ci := 11) (st := []) (rc' := 0) (rs' := 0) (B' := bX11_isEntry) [vI a1] dX11_paper_2 vRX11_224 kX11_isEntry (by decide) rfl k3 rfl rfl (Nat.le_of_ble_eq_true rfl) ⟨Nat.le_of_ble_eq_true rfl, Nat.le_of_ble_eq_true rfl⟩ rfl rfl hv (fun x2 w1 hv => ?_)
  refine e_if_ne (pc := 5) (tgt := 14) dX11_paper_5 (by decide) (fun h4 => ?_) (fun h4 => ?_)
  · replace hv := hv.1 h4
    refine e_aload_n (pc := 14) (i := 0) dX11_paper_14 rfl rfl ?_
    have k5 := hv.1
    replace hv := hv.2
    refine e_getR (pc := 15) dX11_paper_15 fRX11_17 rfl k5 ?_
    refine e_iload_n (pc := 18) (i := 1) dX11_paper_18 rfl rfl ?_
    have k6 := hv.1
    replace hv := hv.2
    have hi7 := hv.1
    replace hv := hv.2
    refine e_iald (pc := 19) dX11_paper_19 k6 hi7 ?_
    refine e_iconst (pc := 20) (v := 2) dX11_paper_20 (by decide) ?_
    refine e_icmp_eq (pc := 21) (tgt := 40) dX11_paper_21 (by decide) (fun h8 => ?_) (fun h8 => ?_)
    · replace hv := hv.1 h8
      exact hv
    · replace hv := hv.2 h8
      refine e_aload_n (pc := 24) (i := 0) dX11_paper_24 rfl rfl ?_
      refine e_getR (pc := 25) dX11_paper_25 fRX11_17 rfl k5 ?_
      refine e_iload_n (pc := 28) (i := 1) dX11_paper_28 rfl rfl ?_
      have hi9 := hv.1
      replace hv := hv.2
      refine e_iald (pc := 29) dX11_paper_29 k6 hi9 ?_
      refine e_iconst (pc := 30) (v := 3) dX11_paper_30 (by decide) ?_
      refine e_icmp_eq (pc := 31) (tgt := 40) dX11_paper_31 (by decide) (fun h10 => ?_) (fun h10 => ?_)
      · replace hv := hv.1 h10
        exact hv
      · replace hv := hv.2 h10
        refine e_aload_n (pc := 34) (i := 0) dX11_paper_34 rfl rfl ?_
        refine e_iconst (pc := 35) (v := 4) dX11_paper_35 (by decide) ?_
        refine e_callVi (pc := 36) (ci := 11) (st := []) (rc' := 0) (rs' := 0) (B' := bX11_no) [vI 4] dX11_paper_36 vRX11_238 kX11_no (by decide) rfl k5 rfl rfl (Nat.le_of_ble_eq_true rfl) ⟨Nat.le_of_ble_eq_true rfl, Nat.le_of_ble_eq_true rfl⟩ rfl rfl hv (fun x12 w11 hv => ?_)
        exact e_zreturn (pc := 39) dX11_paper_39 rfl hv.1 ⟨_, rfl, hv.2⟩
  · replace hv := hv.2 h4
    refine e_aload_n (pc := 8) (i := 0) dX11_paper_8 rfl rfl ?_
    refine e_iconst (pc := 9) (v := 1) dX11_paper_9 (by decide) ?_
    have k15 := hv.1
    replace hv := hv.2
    refine e_callVi (pc := 10) (ci := 11) (st := []) (rc' := 0) (rs' := 0) (B' := bX11_no) [vI 1] dX11_paper_10 vRX11_238 kX11_no (by decide) rfl k15 rfl rfl (Nat.le_of_ble_eq_true rfl) ⟨Nat.le_of_ble_eq_true rfl, Nat.le_of_ble_eq_true rfl⟩ rfl rfl hv (fun x14 w13 hv => ?_)
    exact e_zreturn (pc := 13) dX11_paper_13 rfl hv.1 ⟨_, rfl, hv.2⟩
abbrev jX11_parting_52 (X : Cx) (A : Int32 → Wd → Prop) (l0 : Nat) (l1 : Int32) (l2 : Int64) (l5 : Int32) (l6 : Int32) (w : Wd) : Prop := EJ X mX11_parting (vw X bX11_parting (qI A)) 0 0 52 [(0, vR l0), (1, vI l1), (2, vJ l2), (5, vI l5), (6, vI l6)] [] w
abbrev jX11_parting_115 (X : Cx) (A : Int32 → Wd → Prop) (l0 : Nat) (l1 : Int32) (w : Wd) : Prop := EJ X mX11_parting (vw X bX11_parting (qI A)) 0 0 115 [(0, vR l0), (1, vI l1)] [] w
set_option maxRecDepth 100000 in
set_option maxHeartbeats 4000000 in
theorem tX11_parting_115 (X : Cx) (A : Int32 → Wd → Prop) (l0 : Nat) (l1 : Int32) (w : Wd)
    (hv : wK w l0 = 12 ∧ wK w (wR w 11 9 l0) = 13 ∧ vp_in l1 (wL w (wR w 11 9 l0)) ∧ (((xI w (wR w 11 9 l0) l1.toNatClampNeg) = 0) → (((wI w 11 30 l0) ≤ 298) → A 0 w) ∧ ((¬ (wI w 11 30 l0) ≤ 298) → A 10 w)) ∧ ((¬ (xI w (wR w 11 9 l0) l1.toNatClampNeg) = 0) → A 8 w)) :
    jX11_parting_115 X A l0 l1 w := by
  refine e_aload_n (pc := 115) (i := 0) dX11_parting_115 rfl rfl ?_
  have k1 := hv.1
  replace hv := hv.2
  refine e_getR (pc := 116) dX11_parting_116 fRX11_36 rfl k1 ?_
  refine e_iload_n (pc := 119) (i := 1) dX11_parting_119 rfl rfl ?_
  have k2 := hv.1
  replace hv := hv.2
  have hi3 := hv.1
  replace hv := hv.2
  refine e_iald (pc := 120) dX11_parting_120 k2 hi3 ?_
  refine e_if_eq (pc := 121) (tgt := 127) dX11_parting_121 (by decide) (fun h4 => ?_) (fun h4 => ?_)
  · replace hv := hv.1 h4
    refine e_aload_n (pc := 127) (i := 0) dX11_parting_127 rfl rfl ?_
    refine e_getI (pc := 128) dX11_parting_128 fRX11_169 rfl k1 ?_
    refine e_sipush (pc := 131) (v := 298) dX11_parting_131 (by decide) ?_
    refine e_icmp_le (pc := 134) (tgt := 142) dX11_parting_134 (by decide) (fun h5 => ?_) (fun h5 => ?_)
    · replace hv := hv.1 h5
      refine e_iconst (pc := 142) (v := 0) dX11_parting_142 (by decide) ?_
      exact e_ireturn (pc := 143) dX11_parting_143 rfl ⟨_, rfl, hv⟩
    · replace hv := hv.2 h5
      refine e_bipush (pc := 137) (v := 10) dX11_parting_137 (by decide) ?_
      refine e_goto (pc := 139) (tgt := 143) dX11_parting_139 (by decide) ?_
      exact e_ireturn (pc := 143) dX11_parting_143 rfl ⟨_, rfl, hv⟩
  · replace hv := hv.2 h4
    refine e_bipush (pc := 124) (v := 8) dX11_parting_124 (by decide) ?_
    exact e_ireturn (pc := 126) dX11_parting_126 rfl ⟨_, rfl, hv⟩
set_option maxRecDepth 100000 in
set_option maxHeartbeats 4000000 in
theorem tX11_parting_52 (X : Cx) (A : Int32 → Wd → Prop) (l0 : Nat) (l1 : Int32) (l2 : Int64) (l5 : Int32) (l6 : Int32) (w : Wd)
    (hv : (((lg_cmp l2 0) < 0) → A 5 w) ∧ ((¬ (lg_cmp l2 0) < 0) → wK w l0 = 12 ∧ Ct X bX11_sumBelow mX11_sumBelow [vR l0, vI l1] w (qJ fun x3 w2 => (((lg_cmp l2 x3) ≤ 0) → wK w2 l0 = 12 ∧ Ct X bX11_livesNow mX11_livesNow [vR l0, vI l1] w2 (qI fun x7 w6 => ((¬ x7 = 0) → ((l5 = 0) → jX11_parting_115 X A l0 l1 w6) ∧ ((¬ l5 = 0) → ((l6 = 2) → wK w6 l0 = 12 ∧ wK w6 (wR w6 11 5 l0) = 13 ∧ vp_in l1 (wL w6 (wR w6 11 5 l0)) ∧ wK w6 (wR w6 11 19 l0) = 15 ∧ vp_in (xI w6 (wR w6 11 5 l0) l1.toNatClampNeg) (wL w6 (wR w6 11 19 l0)) ∧ (((xI w6 (wR w6 11 19 l0) (xI w6 (wR w6 11 5 l0) l1.toNatClampNeg).toNatClampNeg) = 0) → jX11_parting_115 X A l0 l1 w6) ∧ ((¬ (xI w6 (wR w6 11 19 l0) (xI w6 (wR w6 11 5 l0) l1.toNatClampNeg).toNatClampNeg) = 0) → A 7 w6)) ∧ ((¬ l6 = 2) → ((¬ l6 = 3) → jX11_parting_115 X A l0 l1 w6) ∧ ((l6 = 3) → wK w6 l0 = 12 ∧ wK w6 (wR w6 11 5 l0) = 13 ∧ vp_in l1 (wL w6 (wR w6 11 5 l0)) ∧ wK w6 (wR w6 11 19 l0) = 15 ∧ vp_in (xI w6 (wR w6 11 5 l0) l1.toNatClampNeg) (wL w6 (wR w6 11 19 l0)) ∧ (((xI w6 (wR w6 11 19 l0) (xI w6 (wR w6 11 5 l0) l1.toNatClampNeg).toNatClampNeg) = 0) → jX11_parting_115 X A l0 l1 w6) ∧ ((¬ (xI w6 (wR w6 11 19 l0) (xI w6 (wR w6 11 5 l0) l1.toNatClampNeg).toNatClampNeg) = 0) → A 7 w6))))) ∧ ((x7 = 0) → A 6 w6))) ∧ ((¬ (lg_cmp l2 x3) ≤ 0) → A 5 w2)))) :
    jX11_parting_52 X A l0 l1 l2 l5 l6 w := by
  refine e_lload_n (pc := 52) (i := 2) dX11_parting_52 rfl rfl ?_
  refine e_lconst (pc := 53) (v := 0) dX11_parting_53 (by decide) ?_
  refine e_lcmp (pc := 54) dX11_parting_54 ?_
  refine e_if_lt (pc := 55) (tgt := 68) dX11_parting_55 (by decide) (fun h1 => ?_) (fun h1 => ?_)
  · replace hv := hv.1 h1
    refine e_iconst (pc := 68) (v := 5) dX11_parting_68 (by decide) ?_
    exact e_ireturn (pc := 69) dX11_parting_69 rfl ⟨_, rfl, hv⟩
  · replace hv := hv.2 h1
    refine e_lload_n (pc := 58) (i := 2) dX11_parting_58 rfl rfl ?_
    refine e_aload_n (pc := 59) (i := 0) dX11_parting_59 rfl rfl ?_
    refine e_iload_n (pc := 60) (i := 1) dX11_parting_60 rfl rfl ?_
    have k4 := hv.1
    replace hv := hv.2
    refine e_callVj (pc := 61) (ci := 11) (st := [vJ l2]) (rc' := 0) (rs' := 0) (B' := bX11_sumBelow) [vI l1] dX11_parting_61 vRX11_263 kX11_sumBelow (by decide) rfl k4 rfl rfl (Nat.le_of_ble_eq_true rfl) ⟨Nat.le_of_ble_eq_true rfl, Nat.le_of_ble_eq_true rfl⟩ rfl rfl hv (fun x3 w2 hv => ?_)
    refine e_lcmp (pc := 64) dX11_parting_64 ?_
    refine e_if_le (pc := 65) (tgt := 70) dX11_parting_65 (by decide) (fun h5 => ?_) (fun h5 => ?_)
    · replace hv := hv.1 h5
      refine e_aload_n (pc := 70) (i := 0) dX11_parting_70 rfl rfl ?_
      refine e_iload_n (pc := 71) (i := 1) dX11_parting_71 rfl rfl ?_
      have k8 := hv.1
      replace hv := hv.2
      refine e_callVi (pc := 72) (ci := 11) (st := []) (rc' := 0) (rs' := 0) (B' := bX11_livesNow) [vI l1] dX11_parting_72 vRX11_260 kX11_livesNow (by decide) rfl k8 rfl rfl (Nat.le_of_ble_eq_true rfl) ⟨Nat.le_of_ble_eq_true rfl, Nat.le_of_ble_eq_true rfl⟩ rfl rfl hv (fun x7 w6 hv => ?_)
      refine e_if_ne (pc := 75) (tgt := 81) dX11_parting_75 (by decide) (fun h9 => ?_) (fun h9 => ?_)
      · replace hv := hv.1 h9
        refine e_iload (pc := 81) (i := 5) dX11_parting_81 rfl ?_
        refine e_if_eq (pc := 83) (tgt := 115) dX11_parting_83 (by decide) (fun h10 => ?_) (fun h10 => ?_)
        · replace hv := hv.1 h10
          exact EJ.drop [0, 1] rfl hv
        · replace hv := hv.2 h10
          refine e_iload (pc := 86) (i := 6) dX11_parting_86 rfl ?_
          refine e_iconst (pc := 88) (v := 2) dX11_parting_88 (by decide) ?_
          refine e_icmp_eq (pc := 89) (tgt := 98) dX11_parting_89 (by decide) (fun h11 => ?_) (fun h11 => ?_)
          · replace hv := hv.1 h11
            refine e_aload_n (pc := 98) (i := 0) dX11_parting_98 rfl rfl ?_
            have k12 := hv.1
            replace hv := hv.2
            refine e_getR (pc := 99) dX11_parting_99 fRX11_66 rfl k12 ?_
            refine e_aload_n (pc := 102) (i := 0) dX11_parting_102 rfl rfl ?_
            refine e_getR (pc := 103) dX11_parting_103 fRX11_23 rfl k12 ?_
            refine e_iload_n (pc := 106) (i := 1) dX11_parting_106 rfl rfl ?_
            have k13 := hv.1
            replace hv := hv.2
            have hi14 := hv.1
            replace hv := hv.2
            refine e_iald (pc := 107) dX11_parting_107 k13 hi14 ?_
            have k15 := hv.1
            replace hv := hv.2
            have hi16 := hv.1
            replace hv := hv.2
            refine e_zald (pc := 108) dX11_parting_108 k15 hi16 ?_
            refine e_if_eq (pc := 109) (tgt := 115) dX11_parting_109 (by decide) (fun h17 => ?_) (fun h17 => ?_)
            · replace hv := hv.1 h17
              exact EJ.drop [0, 1] rfl hv
            · replace hv := hv.2 h17
              refine e_bipush (pc := 112) (v := 7) dX11_parting_112 (by decide) ?_
              exact e_ireturn (pc := 114) dX11_parting_114 rfl ⟨_, rfl, hv⟩
          · replace hv := hv.2 h11
            refine e_iload (pc := 92) (i := 6) dX11_parting_92 rfl ?_
            refine e_iconst (pc := 94) (v := 3) dX11_parting_94 (by decide) ?_
            refine e_icmp_ne (pc := 95) (tgt := 115) dX11_parting_95 (by decide) (fun h18 => ?_) (fun h18 => ?_)
            · replace hv := hv.1 h18
              exact EJ.drop [0, 1] rfl hv
            · replace hv := hv.2 h18
              refine e_aload_n (pc := 98) (i := 0) dX11_parting_98 rfl rfl ?_
              have k19 := hv.1
              replace hv := hv.2
              refine e_getR (pc := 99) dX11_parting_99 fRX11_66 rfl k19 ?_
              refine e_aload_n (pc := 102) (i := 0) dX11_parting_102 rfl rfl ?_
              refine e_getR (pc := 103) dX11_parting_103 fRX11_23 rfl k19 ?_
              refine e_iload_n (pc := 106) (i := 1) dX11_parting_106 rfl rfl ?_
              have k20 := hv.1
              replace hv := hv.2
              have hi21 := hv.1
              replace hv := hv.2
              refine e_iald (pc := 107) dX11_parting_107 k20 hi21 ?_
              have k22 := hv.1
              replace hv := hv.2
              have hi23 := hv.1
              replace hv := hv.2
              refine e_zald (pc := 108) dX11_parting_108 k22 hi23 ?_
              refine e_if_eq (pc := 109) (tgt := 115) dX11_parting_109 (by decide) (fun h24 => ?_) (fun h24 => ?_)
              · replace hv := hv.1 h24
                exact EJ.drop [0, 1] rfl hv
              · replace hv := hv.2 h24
                refine e_bipush (pc := 112) (v := 7) dX11_parting_112 (by decide) ?_
                exact e_ireturn (pc := 114) dX11_parting_114 rfl ⟨_, rfl, hv⟩
      · replace hv := hv.2 h9
        refine e_bipush (pc := 78) (v := 6) dX11_parting_78 (by decide) ?_
        exact e_ireturn (pc := 80) dX11_parting_80 rfl ⟨_, rfl, hv⟩
    · replace hv := hv.2 h5
      refine e_iconst (pc := 68) (v := 5) dX11_parting_68 (by decide) ?_
      exact e_ireturn (pc := 69) dX11_parting_69 rfl ⟨_, rfl, hv⟩
set_option maxRecDepth 100000 in
set_option maxHeartbeats 4000000 in
theorem oX11_parting (X : Cx) (A : Int32 → Wd → Prop) (a0 : Nat) (a1 : Int32) (a2 : Int64) (a4 : Int32) (a5 : Int32) (w : Wd)
    (hv : wK w a0 = 12 ∧ Ct X bX11_isEntry mX11_isEntry [vR a0, vI a1] w (qI fun x2 w1 => ((¬ x2 = 0) → wK w1 a0 = 12 ∧ wK w1 (wR w1 11 3 a0) = 13 ∧ vp_in a1 (wL w1 (wR w1 11 3 a0)) ∧ (((xI w1 (wR w1 11 3 a0) a1.toNatClampNeg) = 6) → A 4 w1) ∧ ((¬ (xI w1 (wR w1 11 3 a0) a1.toNatClampNeg) = 6) → ((¬ (xI w1 (wR w1 11 3 a0) a1.toNatClampNeg) = 4) → ((a5 = 0) → jX11_parting_52 X A a0 a1 a2 a5 (xI w1 (wR w1 11 3 a0) a1.toNatClampNeg) w1) ∧ ((¬ a5 = 0) → ((a4 < 1) → A 5 w1) ∧ ((¬ a4 < 1) → ((1000 < a4) → A 5 w1) ∧ ((¬ 1000 < a4) → jX11_parting_52 X A a0 a1 a2 a5 (xI w1 (wR w1 11 3 a0) a1.toNatClampNeg) w1)))) ∧ (((xI w1 (wR w1 11 3 a0) a1.toNatClampNeg) = 4) → A 4 w1))) ∧ ((x2 = 0) → A 1 w1))) :
    Ct X bX11_parting mX11_parting [vR a0, vI a1, vJ a2, vI a4, vI a5] w (qI A) := by
  refine Ct.of (lv := [(0, vR a0), (1, vI a1), (2, vJ a2), (4, vI a4), (5, vI a5)]) rfl (Nat.le_of_ble_eq_true rfl) rfl ?_
  refine e_aload_n (pc := 0) (i := 0) dX11_parting_0 rfl rfl ?_
  refine e_iload_n (pc := 1) (i := 1) dX11_parting_1 rfl rfl ?_
  have k3 := hv.1
  replace hv := hv.2
  refine e_callVi (pc := 2) (ci := 11) (st := []) (rc' := 0) (rs' := 0) (B' := bX11_isEntry) [vI a1] dX11_parting_2 vRX11_224 kX11_isEntry (by decide) rfl k3 rfl rfl (Nat.le_of_ble_eq_true rfl) ⟨Nat.le_of_ble_eq_true rfl, Nat.le_of_ble_eq_true rfl⟩ rfl rfl hv (fun x2 w1 hv => ?_)
  refine e_if_ne (pc := 5) (tgt := 10) dX11_parting_5 (by decide) (fun h4 => ?_) (fun h4 => ?_)
  · replace hv := hv.1 h4
    refine e_aload_n (pc := 10) (i := 0) dX11_parting_10 rfl rfl ?_
    have k5 := hv.1
    replace hv := hv.2
    refine e_getR (pc := 11) dX11_parting_11 fRX11_17 rfl k5 ?_
    refine e_iload_n (pc := 14) (i := 1) dX11_parting_14 rfl rfl ?_
    have k6 := hv.1
    replace hv := hv.2
    have hi7 := hv.1
    replace hv := hv.2
    refine e_iald (pc := 15) dX11_parting_15 k6 hi7 ?_
    refine e_istore (pc := 16) (i := 6) (lv' := [(0, vR a0), (1, vI a1), (2, vJ a2), (4, vI a4), (5, vI a5), (6, vI (xI w1 (wR w1 11 3 a0) a1.toNatClampNeg))]) dX11_parting_16 (by decide) rfl ?_
    refine e_iload (pc := 18) (i := 6) dX11_parting_18 rfl ?_
    refine e_bipush (pc := 20) (v := 6) dX11_parting_20 (by decide) ?_
    refine e_icmp_eq (pc := 22) (tgt := 31) dX11_parting_22 (by decide) (fun h8 => ?_) (fun h8 => ?_)
    · replace hv := hv.1 h8
      refine e_iconst (pc := 31) (v := 4) dX11_parting_31 (by decide) ?_
      exact e_ireturn (pc := 32) dX11_parting_32 rfl ⟨_, rfl, hv⟩
    · replace hv := hv.2 h8
      refine e_iload (pc := 25) (i := 6) dX11_parting_25 rfl ?_
      refine e_iconst (pc := 27) (v := 4) dX11_parting_27 (by decide) ?_
      refine e_icmp_ne (pc := 28) (tgt := 33) dX11_parting_28 (by decide) (fun h9 => ?_) (fun h9 => ?_)
      · replace hv := hv.1 h9
        refine e_iload (pc := 33) (i := 5) dX11_parting_33 rfl ?_
        refine e_if_eq (pc := 35) (tgt := 52) dX11_parting_35 (by decide) (fun h10 => ?_) (fun h10 => ?_)
        · replace hv := hv.1 h10
          exact EJ.drop [0, 1, 2, 5, 6] rfl hv
        · replace hv := hv.2 h10
          refine e_iload (pc := 38) (i := 4) dX11_parting_38 rfl ?_
          refine e_iconst (pc := 40) (v := 1) dX11_parting_40 (by decide) ?_
          refine e_icmp_lt (pc := 41) (tgt := 68) dX11_parting_41 (by decide) (fun h11 => ?_) (fun h11 => ?_)
          · replace hv := hv.1 h11
            refine e_iconst (pc := 68) (v := 5) dX11_parting_68 (by decide) ?_
            exact e_ireturn (pc := 69) dX11_parting_69 rfl ⟨_, rfl, hv⟩
          · replace hv := hv.2 h11
            refine e_iload (pc := 44) (i := 4) dX11_parting_44 rfl ?_
            refine e_sipush (pc := 46) (v := 1000) dX11_parting_46 (by decide) ?_
            refine e_icmp_gt (pc := 49) (tgt := 68) dX11_parting_49 (by decide) (fun h12 => ?_) (fun h12 => ?_)
            · replace hv := hv.1 h12
              refine e_iconst (pc := 68) (v := 5) dX11_parting_68 (by decide) ?_
              exact e_ireturn (pc := 69) dX11_parting_69 rfl ⟨_, rfl, hv⟩
            · replace hv := hv.2 h12
              exact EJ.drop [0, 1, 2, 5, 6] rfl hv
      · replace hv := hv.2 h9
        refine e_iconst (pc := 31) (v := 4) dX11_parting_31 (by decide) ?_
        exact e_ireturn (pc := 32) dX11_parting_32 rfl ⟨_, rfl, hv⟩
  · replace hv := hv.2 h4
    refine e_iconst (pc := 8) (v := 1) dX11_parting_8 (by decide) ?_
    exact e_ireturn (pc := 9) dX11_parting_9 rfl ⟨_, rfl, hv⟩
set_option maxRecDepth 100000 in
set_option maxHeartbeats 4000000 in
theorem oX11_part (X : Cx) (A : Int32 → Wd → Prop) (a0 : Nat) (a1 : Int32) (a2 : Int64) (a4 : Int32) (w : Wd)
    (hv : wK w a0 = 12 ∧ wK w (wR w 11 5 a0) = 13 ∧ vp_in a1 (wL w (wR w 11 5 a0)) ∧ wK w (wR w 11 8 a0) = 14 ∧ vp_in a1 (wL w (wR w 11 8 a0)) ∧ wK w (wR w 11 4 a0) = 13 ∧ vp_in a1 (wL w (wR w 11 4 a0)) ∧ wK w (wR w 11 3 a0) = 13 ∧ vp_in a1 (wL w (wR w 11 3 a0)) ∧ wK w (wR w 11 7 a0) = 13 ∧ vp_in a1 (wL w (wR w 11 7 a0)) ∧ Ct X bX11_make mX11_make [vR a0, vI (xI w (wR w 11 4 a0) a1.toNatClampNeg), vI (xI w (wR w 11 3 a0) a1.toNatClampNeg), vI (xI w (wR w 11 5 a0) a1.toNatClampNeg), vI a1, vI (xI w (wR w 11 7 a0) a1.toNatClampNeg), vJ a2] w (qI fun x13 w12 => wK w12 a0 = 12 ∧ wK w12 (wR w12 11 4 a0) = 13 ∧ vp_in a1 (wL w12 (wR w12 11 4 a0)) ∧ wK w12 (wR w12 11 3 a0) = 13 ∧ vp_in a1 (wL w12 (wR w12 11 3 a0)) ∧ Ct X bX11_make mX11_make [vR a0, vI (xI w12 (wR w12 11 4 a0) a1.toNatClampNeg), vI (xI w12 (wR w12 11 3 a0) a1.toNatClampNeg), vI (xI w (wR w 11 5 a0) a1.toNatClampNeg), vI a1, vI a4, vJ ((xJ w (wR w 11 8 a0) a1.toNatClampNeg) - a2)] w12 (qI fun x20 w19 => wK w19 a0 = 12 ∧ wK w19 (wR w19 11 9 a0) = 13 ∧ vp_in a1 (wL w19 (wR w19 11 9 a0)) ∧ ∀ w24 : Wd, w24 = yI w19 (wR w19 11 9 a0) a1.toNatClampNeg x13 → ∀ w26 : Wd, w26 = sI w24 11 41 a0 0 → A (x20 - 1) w26))) :
    Ct X bX11_part mX11_part [vR a0, vI a1, vJ a2, vI a4] w (qI A) := by
  refine Ct.of (lv := [(0, vR a0), (1, vI a1), (2, vJ a2), (4, vI a4)]) rfl (Nat.le_of_ble_eq_true rfl) rfl ?_
  refine e_aload_n (pc := 0) (i := 0) dX11_part_0 rfl rfl ?_
  have k1 := hv.1
  replace hv := hv.2
  refine e_getR (pc := 1) dX11_part_1 fRX11_23 rfl k1 ?_
  refine e_iload_n (pc := 4) (i := 1) dX11_part_4 rfl rfl ?_
  have k2 := hv.1
  replace hv := hv.2
  have hi3 := hv.1
  replace hv := hv.2
  refine e_iald (pc := 5) dX11_part_5 k2 hi3 ?_
  refine e_istore (pc := 6) (i := 5) (lv' := [(0, vR a0), (1, vI a1), (2, vJ a2), (4, vI a4), (5, vI (xI w (wR w 11 5 a0) a1.toNatClampNeg))]) dX11_part_6 (by decide) rfl ?_
  refine e_aload_n (pc := 8) (i := 0) dX11_part_8 rfl rfl ?_
  refine e_getR (pc := 9) dX11_part_9 fRX11_32 rfl k1 ?_
  refine e_iload_n (pc := 12) (i := 1) dX11_part_12 rfl rfl ?_
  have k4 := hv.1
  replace hv := hv.2
  have hi5 := hv.1
  replace hv := hv.2
  refine e_lald (pc := 13) dX11_part_13 k4 hi5 ?_
  refine e_lstore (pc := 14) (i := 6) (lv' := [(0, vR a0), (1, vI a1), (2, vJ a2), (4, vI a4), (5, vI (xI w (wR w 11 5 a0) a1.toNatClampNeg)), (6, vJ (xJ w (wR w 11 8 a0) a1.toNatClampNeg))]) dX11_part_14 (by decide) rfl ?_
  refine e_aload_n (pc := 16) (i := 0) dX11_part_16 rfl rfl ?_
  refine e_aload_n (pc := 17) (i := 0) dX11_part_17 rfl rfl ?_
  refine e_getR (pc := 18) dX11_part_18 fRX11_20 rfl k1 ?_
  refine e_iload_n (pc := 21) (i := 1) dX11_part_21 rfl rfl ?_
  have k6 := hv.1
  replace hv := hv.2
  have hi7 := hv.1
  replace hv := hv.2
  refine e_iald (pc := 22) dX11_part_22 k6 hi7 ?_
  refine e_aload_n (pc := 23) (i := 0) dX11_part_23 rfl rfl ?_
  refine e_getR (pc := 24) dX11_part_24 fRX11_17 rfl k1 ?_
  refine e_iload_n (pc := 27) (i := 1) dX11_part_27 rfl rfl ?_
  have k8 := hv.1
  replace hv := hv.2
  have hi9 := hv.1
  replace hv := hv.2
  refine e_iald (pc := 28) dX11_part_28 k8 hi9 ?_
  refine e_iload (pc := 29) (i := 5) dX11_part_29 rfl ?_
  refine e_iload_n (pc := 31) (i := 1) dX11_part_31 rfl rfl ?_
  refine e_aload_n (pc := 32) (i := 0) dX11_part_32 rfl rfl ?_
  refine e_getR (pc := 33) dX11_part_33 fRX11_29 rfl k1 ?_
  refine e_iload_n (pc := 36) (i := 1) dX11_part_36 rfl rfl ?_
  have k10 := hv.1
  replace hv := hv.2
  have hi11 := hv.1
  replace hv := hv.2
  refine e_iald (pc := 37) dX11_part_37 k10 hi11 ?_
  refine e_lload_n (pc := 38) (i := 2) dX11_part_38 rfl rfl ?_
  refine e_callVi (pc := 39) (ci := 11) (st := []) (rc' := 0) (rs' := 0) (B' := bX11_make) [vI (xI w (wR w 11 4 a0) a1.toNatClampNeg), vI (xI w (wR w 11 3 a0) a1.toNatClampNeg), vI (xI w (wR w 11 5 a0) a1.toNatClampNeg), vI a1, vI (xI w (wR w 11 7 a0) a1.toNatClampNeg), vJ a2] dX11_part_39 vRX11_248 kX11_make (by decide) rfl k1 rfl rfl (Nat.le_of_ble_eq_true rfl) ⟨Nat.le_of_ble_eq_true rfl, Nat.le_of_ble_eq_true rfl⟩ rfl rfl hv (fun x13 w12 hv => ?_)
  refine e_istore (pc := 42) (i := 8) (lv' := [(0, vR a0), (1, vI a1), (2, vJ a2), (4, vI a4), (5, vI (xI w (wR w 11 5 a0) a1.toNatClampNeg)), (6, vJ (xJ w (wR w 11 8 a0) a1.toNatClampNeg)), (8, vI x13)]) dX11_part_42 (by decide) rfl ?_
  refine e_aload_n (pc := 44) (i := 0) dX11_part_44 rfl rfl ?_
  refine e_aload_n (pc := 45) (i := 0) dX11_part_45 rfl rfl ?_
  have k14 := hv.1
  replace hv := hv.2
  refine e_getR (pc := 46) dX11_part_46 fRX11_20 rfl k14 ?_
  refine e_iload_n (pc := 49) (i := 1) dX11_part_49 rfl rfl ?_
  have k15 := hv.1
  replace hv := hv.2
  have hi16 := hv.1
  replace hv := hv.2
  refine e_iald (pc := 50) dX11_part_50 k15 hi16 ?_
  refine e_aload_n (pc := 51) (i := 0) dX11_part_51 rfl rfl ?_
  refine e_getR (pc := 52) dX11_part_52 fRX11_17 rfl k14 ?_
  refine e_iload_n (pc := 55) (i := 1) dX11_part_55 rfl rfl ?_
  have k17 := hv.1
  replace hv := hv.2
  have hi18 := hv.1
  replace hv := hv.2
  refine e_iald (pc := 56) dX11_part_56 k17 hi18 ?_
  refine e_iload (pc := 57) (i := 5) dX11_part_57 rfl ?_
  refine e_iload_n (pc := 59) (i := 1) dX11_part_59 rfl rfl ?_
  refine e_iload (pc := 60) (i := 4) dX11_part_60 rfl ?_
  refine e_lload (pc := 62) (i := 6) dX11_part_62 rfl ?_
  refine e_lload_n (pc := 64) (i := 2) dX11_part_64 rfl rfl ?_
  refine e_lsub (pc := 65) dX11_part_65 ?_
  refine e_callVi (pc := 66) (ci := 11) (st := []) (rc' := 0) (rs' := 0) (B' := bX11_make) [vI (xI w12 (wR w12 11 4 a0) a1.toNatClampNeg), vI (xI w12 (wR w12 11 3 a0) a1.toNatClampNeg), vI (xI w (wR w 11 5 a0) a1.toNatClampNeg), vI a1, vI a4, vJ ((xJ w (wR w 11 8 a0) a1.toNatClampNeg) - a2)] dX11_part_66 vRX11_248 kX11_make (by decide) rfl k14 rfl rfl (Nat.le_of_ble_eq_true rfl) ⟨Nat.le_of_ble_eq_true rfl, Nat.le_of_ble_eq_true rfl⟩ rfl rfl hv (fun x20 w19 hv => ?_)
  refine e_istore (pc := 69) (i := 9) (lv' := [(0, vR a0), (1, vI a1), (2, vJ a2), (4, vI a4), (5, vI (xI w (wR w 11 5 a0) a1.toNatClampNeg)), (6, vJ (xJ w (wR w 11 8 a0) a1.toNatClampNeg)), (8, vI x13), (9, vI x20)]) dX11_part_69 (by decide) rfl ?_
  refine e_aload_n (pc := 71) (i := 0) dX11_part_71 rfl rfl ?_
  have k21 := hv.1
  replace hv := hv.2
  refine e_getR (pc := 72) dX11_part_72 fRX11_36 rfl k21 ?_
  refine e_iload_n (pc := 75) (i := 1) dX11_part_75 rfl rfl ?_
  refine e_iload (pc := 76) (i := 8) dX11_part_76 rfl ?_
  have k22 := hv.1
  replace hv := hv.2
  have hi23 := hv.1
  replace hv := hv.2
  obtain ⟨w24, hw24⟩ : ∃ w24 : Wd, w24 = yI w19 (wR w19 11 9 a0) a1.toNatClampNeg x13 := ⟨_, rfl⟩
  replace hv := hv w24 hw24
  refine e_iast (pc := 78) dX11_part_78 k22 hi23 ?_
  rw [← hw24]
  refine e_aload_n (pc := 79) (i := 0) dX11_part_79 rfl rfl ?_
  refine e_iconst (pc := 80) (v := 0) dX11_part_80 (by decide) ?_
  have k25 : wK w24 a0 = 12 := (by rw [hw24]; exact k21)
  obtain ⟨w26, hw26⟩ : ∃ w26 : Wd, w26 = sI w24 11 41 a0 0 := ⟨_, rfl⟩
  replace hv := hv w26 hw26
  refine e_putI (pc := 81) dX11_part_81 fRX11_163 (Or.inl rfl) rfl k25 ?_
  rw [← hw26]
  refine e_iload (pc := 84) (i := 9) dX11_part_84 rfl ?_
  refine e_iconst (pc := 86) (v := 1) dX11_part_86 (by decide) ?_
  refine e_isub (pc := 87) dX11_part_87 ?_
  exact e_ireturn (pc := 88) dX11_part_88 rfl ⟨_, rfl, hv⟩
set_option maxRecDepth 100000 in
set_option maxHeartbeats 4000000 in
theorem oX11_split (X : Cx) (A : Int32 → Wd → Prop) (a0 : Nat) (a1 : Int32) (a2 : Int64) (w : Wd)
    (hv : wK w a0 = 12 ∧ Ct X bX11_parting mX11_parting [vR a0, vI a1, vJ a2, vI 1, vI 0] w (qI fun x2 w1 => ((x2 ≤ 0) → wK w1 a0 = 12 ∧ wK w1 (wR w1 11 7 a0) = 13 ∧ vp_in a1 (wL w1 (wR w1 11 7 a0)) ∧ Ct X bX11_part mX11_part [vR a0, vI a1, vJ a2, vI (xI w1 (wR w1 11 7 a0) a1.toNatClampNeg)] w1 (qI fun x9 w8 => A x9 w8)) ∧ ((¬ x2 ≤ 0) → wK w1 a0 = 12 ∧ Ct X bX11_refuse mX11_refuse [vR a0, vI x2] w1 (qI fun x11 w10 => A x11 w10)))) :
    Ct X bX11_split mX11_split [vR a0, vI a1, vJ a2] w (qI A) := by
  refine Ct.of (lv := [(0, vR a0), (1, vI a1), (2, vJ a2)]) rfl (Nat.le_of_ble_eq_true rfl) rfl ?_
  refine e_aload_n (pc := 0) (i := 0) dX11_split_0 rfl rfl ?_
  refine e_iload_n (pc := 1) (i := 1) dX11_split_1 rfl rfl ?_
  refine e_lload_n (pc := 2) (i := 2) dX11_split_2 rfl rfl ?_
  refine e_iconst (pc := 3) (v := 1) dX11_split_3 (by decide) ?_
  refine e_iconst (pc := 4) (v := 0) dX11_split_4 (by decide) ?_
  have k3 := hv.1
  replace hv := hv.2
  refine e_callVi (pc := 5) (ci := 11) (st := []) (rc' := 0) (rs' := 0) (B' := bX11_parting) [vI a1, vJ a2, vI 1, vI 0] dX11_split_5 vRX11_267 kX11_parting (by decide) rfl k3 rfl rfl (Nat.le_of_ble_eq_true rfl) ⟨Nat.le_of_ble_eq_true rfl, Nat.le_of_ble_eq_true rfl⟩ rfl rfl hv (fun x2 w1 hv => ?_)
  refine e_istore (pc := 8) (i := 4) (lv' := [(0, vR a0), (1, vI a1), (2, vJ a2), (4, vI x2)]) dX11_split_8 (by decide) rfl ?_
  refine e_iload (pc := 10) (i := 4) dX11_split_10 rfl ?_
  refine e_if_le (pc := 12) (tgt := 22) dX11_split_12 (by decide) (fun h4 => ?_) (fun h4 => ?_)
  · replace hv := hv.1 h4
    refine e_aload_n (pc := 22) (i := 0) dX11_split_22 rfl rfl ?_
    refine e_iload_n (pc := 23) (i := 1) dX11_split_23 rfl rfl ?_
    refine e_lload_n (pc := 24) (i := 2) dX11_split_24 rfl rfl ?_
    refine e_aload_n (pc := 25) (i := 0) dX11_split_25 rfl rfl ?_
    have k5 := hv.1
    replace hv := hv.2
    refine e_getR (pc := 26) dX11_split_26 fRX11_29 rfl k5 ?_
    refine e_iload_n (pc := 29) (i := 1) dX11_split_29 rfl rfl ?_
    have k6 := hv.1
    replace hv := hv.2
    have hi7 := hv.1
    replace hv := hv.2
    refine e_iald (pc := 30) dX11_split_30 k6 hi7 ?_
    refine e_callVi (pc := 31) (ci := 11) (st := []) (rc' := 0) (rs' := 0) (B' := bX11_part) [vI a1, vJ a2, vI (xI w1 (wR w1 11 7 a0) a1.toNatClampNeg)] dX11_split_31 vRX11_271 kX11_part (by decide) rfl k5 rfl rfl (Nat.le_of_ble_eq_true rfl) ⟨Nat.le_of_ble_eq_true rfl, Nat.le_of_ble_eq_true rfl⟩ rfl rfl hv (fun x9 w8 hv => ?_)
    exact e_ireturn (pc := 34) dX11_split_34 rfl ⟨_, rfl, hv⟩
  · replace hv := hv.2 h4
    refine e_aload_n (pc := 15) (i := 0) dX11_split_15 rfl rfl ?_
    refine e_iload (pc := 16) (i := 4) dX11_split_16 rfl ?_
    have k12 := hv.1
    replace hv := hv.2
    refine e_callVi (pc := 18) (ci := 11) (st := []) (rc' := 0) (rs' := 0) (B' := bX11_refuse) [vI x2] dX11_split_18 vRX11_231 kX11_refuse (by decide) rfl k12 rfl rfl (Nat.le_of_ble_eq_true rfl) ⟨Nat.le_of_ble_eq_true rfl, Nat.le_of_ble_eq_true rfl⟩ rfl rfl hv (fun x11 w10 hv => ?_)
    exact e_ireturn (pc := 21) dX11_split_21 rfl ⟨_, rfl, hv⟩
set_option maxRecDepth 100000 in
set_option maxHeartbeats 4000000 in
theorem oX11_hand (X : Cx) (A : Int32 → Wd → Prop) (a0 : Nat) (a1 : Int32) (a2 : Int64) (a4 : Int32) (w : Wd)
    (hv : wK w a0 = 12 ∧ Ct X bX11_parting mX11_parting [vR a0, vI a1, vJ a2, vI a4, vI 1] w (qI fun x2 w1 => ((x2 ≤ 0) → wK w1 a0 = 12 ∧ wK w1 (wR w1 11 8 a0) = 14 ∧ vp_in a1 (wL w1 (wR w1 11 8 a0)) ∧ Ct X bX11_part mX11_part [vR a0, vI a1, vJ ((xJ w1 (wR w1 11 8 a0) a1.toNatClampNeg) - a2), vI a4] w1 (qI fun x9 w8 => A (x9 + 1) w8)) ∧ ((¬ x2 ≤ 0) → wK w1 a0 = 12 ∧ Ct X bX11_refuse mX11_refuse [vR a0, vI x2] w1 (qI fun x11 w10 => A x11 w10)))) :
    Ct X bX11_hand mX11_hand [vR a0, vI a1, vJ a2, vI a4] w (qI A) := by
  refine Ct.of (lv := [(0, vR a0), (1, vI a1), (2, vJ a2), (4, vI a4)]) rfl (Nat.le_of_ble_eq_true rfl) rfl ?_
  refine e_aload_n (pc := 0) (i := 0) dX11_hand_0 rfl rfl ?_
  refine e_iload_n (pc := 1) (i := 1) dX11_hand_1 rfl rfl ?_
  refine e_lload_n (pc := 2) (i := 2) dX11_hand_2 rfl rfl ?_
  refine e_iload (pc := 3) (i := 4) dX11_hand_3 rfl ?_
  refine e_iconst (pc := 5) (v := 1) dX11_hand_5 (by decide) ?_
  have k3 := hv.1
  replace hv := hv.2
  refine e_callVi (pc := 6) (ci := 11) (st := []) (rc' := 0) (rs' := 0) (B' := bX11_parting) [vI a1, vJ a2, vI a4, vI 1] dX11_hand_6 vRX11_267 kX11_parting (by decide) rfl k3 rfl rfl (Nat.le_of_ble_eq_true rfl) ⟨Nat.le_of_ble_eq_true rfl, Nat.le_of_ble_eq_true rfl⟩ rfl rfl hv (fun x2 w1 hv => ?_)
  refine e_istore (pc := 9) (i := 5) (lv' := [(0, vR a0), (1, vI a1), (2, vJ a2), (4, vI a4), (5, vI x2)]) dX11_hand_9 (by decide) rfl ?_
  refine e_iload (pc := 11) (i := 5) dX11_hand_11 rfl ?_
  refine e_if_le (pc := 13) (tgt := 23) dX11_hand_13 (by decide) (fun h4 => ?_) (fun h4 => ?_)
  · replace hv := hv.1 h4
    refine e_aload_n (pc := 23) (i := 0) dX11_hand_23 rfl rfl ?_
    have k5 := hv.1
    replace hv := hv.2
    refine e_getR (pc := 24) dX11_hand_24 fRX11_32 rfl k5 ?_
    refine e_iload_n (pc := 27) (i := 1) dX11_hand_27 rfl rfl ?_
    have k6 := hv.1
    replace hv := hv.2
    have hi7 := hv.1
    replace hv := hv.2
    refine e_lald (pc := 28) dX11_hand_28 k6 hi7 ?_
    refine e_lload_n (pc := 29) (i := 2) dX11_hand_29 rfl rfl ?_
    refine e_lsub (pc := 30) dX11_hand_30 ?_
    refine e_lstore (pc := 31) (i := 6) (lv' := [(0, vR a0), (1, vI a1), (2, vJ a2), (4, vI a4), (5, vI x2), (6, vJ ((xJ w1 (wR w1 11 8 a0) a1.toNatClampNeg) - a2))]) dX11_hand_31 (by decide) rfl ?_
    refine e_aload_n (pc := 33) (i := 0) dX11_hand_33 rfl rfl ?_
    refine e_iload_n (pc := 34) (i := 1) dX11_hand_34 rfl rfl ?_
    refine e_lload (pc := 35) (i := 6) dX11_hand_35 rfl ?_
    refine e_iload (pc := 37) (i := 4) dX11_hand_37 rfl ?_
    refine e_callVi (pc := 39) (ci := 11) (st := []) (rc' := 0) (rs' := 0) (B' := bX11_part) [vI a1, vJ ((xJ w1 (wR w1 11 8 a0) a1.toNatClampNeg) - a2), vI a4] dX11_hand_39 vRX11_271 kX11_part (by decide) rfl k5 rfl rfl (Nat.le_of_ble_eq_true rfl) ⟨Nat.le_of_ble_eq_true rfl, Nat.le_of_ble_eq_true rfl⟩ rfl rfl hv (fun x9 w8 hv => ?_)
    refine e_iconst (pc := 42) (v := 1) dX11_hand_42 (by decide) ?_
    refine e_iadd (pc := 43) dX11_hand_43 ?_
    exact e_ireturn (pc := 44) dX11_hand_44 rfl ⟨_, rfl, hv⟩
  · replace hv := hv.2 h4
    refine e_aload_n (pc := 16) (i := 0) dX11_hand_16 rfl rfl ?_
    refine e_iload (pc := 17) (i := 5) dX11_hand_17 rfl ?_
    have k12 := hv.1
    replace hv := hv.2
    refine e_callVi (pc := 19) (ci := 11) (st := []) (rc' := 0) (rs' := 0) (B' := bX11_refuse) [vI x2] dX11_hand_19 vRX11_231 kX11_refuse (by decide) rfl k12 rfl rfl (Nat.le_of_ble_eq_true rfl) ⟨Nat.le_of_ble_eq_true rfl, Nat.le_of_ble_eq_true rfl⟩ rfl rfl hv (fun x11 w10 hv => ?_)
    exact e_ireturn (pc := 22) dX11_hand_22 rfl ⟨_, rfl, hv⟩
set_option maxRecDepth 100000 in
set_option maxHeartbeats 4000000 in
theorem oX11_isUndone (X : Cx) (A : Int32 → Wd → Prop) (a0 : Nat) (a1 : Int32) (w : Wd)
    (hv : wK w a0 = 12 ∧ wK w (wR w 11 37 a0) = 13 ∧ vp_in a1 (wL w (wR w 11 37 a0)) ∧ (((xI w (wR w 11 37 a0) a1.toNatClampNeg) = (-1)) → A 0 w) ∧ ((¬ (xI w (wR w 11 37 a0) a1.toNatClampNeg) = (-1)) → A 1 w)) :
    Ct X bX11_isUndone mX11_isUndone [vR a0, vI a1] w (qI A) := by
  refine Ct.of (lv := [(0, vR a0), (1, vI a1)]) rfl (Nat.le_of_ble_eq_true rfl) rfl ?_
  refine e_aload_n (pc := 0) (i := 0) dX11_isUndone_0 rfl rfl ?_
  have k1 := hv.1
  replace hv := hv.2
  refine e_getR (pc := 1) dX11_isUndone_1 fRX11_117 rfl k1 ?_
  refine e_iload_n (pc := 4) (i := 1) dX11_isUndone_4 rfl rfl ?_
  have k2 := hv.1
  replace hv := hv.2
  have hi3 := hv.1
  replace hv := hv.2
  refine e_iald (pc := 5) dX11_isUndone_5 k2 hi3 ?_
  refine e_iconst (pc := 6) (v := (-1)) dX11_isUndone_6 (by decide) ?_
  refine e_icmp_eq (pc := 7) (tgt := 14) dX11_isUndone_7 (by decide) (fun h4 => ?_) (fun h4 => ?_)
  · replace hv := hv.1 h4
    refine e_iconst (pc := 14) (v := 0) dX11_isUndone_14 (by decide) ?_
    exact e_zreturn (pc := 15) dX11_isUndone_15 rfl (Or.inl rfl) ⟨_, rfl, hv⟩
  · replace hv := hv.2 h4
    refine e_iconst (pc := 10) (v := 1) dX11_isUndone_10 (by decide) ?_
    refine e_goto (pc := 11) (tgt := 15) dX11_isUndone_11 (by decide) ?_
    exact e_zreturn (pc := 15) dX11_isUndone_15 rfl (Or.inr rfl) ⟨_, rfl, hv⟩
abbrev jX11_measure_2 (X : Cx) (A : Wd → Prop) (l0 : Nat) (l1 : Int32) (l2 : Int32) (w : Wd) : Prop := EJ X mX11_measure (vw X bX11_measure (qV A)) 0 0 2 [(0, vR l0), (1, vI l1), (2, vI l2)] [] w
abbrev jX11_measure_34 (X : Cx) (A : Wd → Prop) (l0 : Nat) (l2 : Int32) (w : Wd) : Prop := EJ X mX11_measure (vw X bX11_measure (qV A)) 0 0 34 [(0, vR l0), (2, vI l2)] [] w
abbrev jX11_measure_44 (X : Cx) (A : Wd → Prop) (l0 : Nat) (l2 : Int32) (l3 : Int32) (w : Wd) : Prop := EJ X mX11_measure (vw X bX11_measure (qV A)) 0 0 44 [(0, vR l0), (2, vI l2), (3, vI l3)] [] w
set_option maxRecDepth 100000 in
set_option maxHeartbeats 4000000 in
theorem tX11_measure_44 (X : Cx) (A : Wd → Prop) (l0 : Nat) (l2 : Int32) (l3 : Int32) (w : Wd)
    (hv : wK w l0 = 12 ∧ (((wI w 11 38 l0) < l3) → jX11_measure_34 X A l0 (l2 + 1) w) ∧ ((¬ (wI w 11 38 l0) < l3) → wK w (wR w 11 31 l0) = 13 ∧ vp_in l3 (wL w (wR w 11 31 l0)) ∧ wK w (wR w 11 5 l0) = 13 ∧ vp_in (xI w (wR w 11 31 l0) l3.toNatClampNeg) (wL w (wR w 11 5 l0)) ∧ wK w (wR w 11 32 l0) = 13 ∧ vp_in l3 (wL w (wR w 11 32 l0)) ∧ vp_in (xI w (wR w 11 32 l0) l3.toNatClampNeg) (wL w (wR w 11 5 l0)) ∧ Ct X bX11_isUndone mX11_isUndone [vR l0, vI l3] w (qI fun x11 w10 => ((¬ x11 = 0) → jX11_measure_44 X A l0 l2 (l3 + 1) w10) ∧ ((x11 = 0) → wK w10 l0 = 12 ∧ wK w10 (wR w10 11 50 l0) = 13 ∧ vp_in (xI w (wR w 11 5 l0) (xI w (wR w 11 32 l0) l3.toNatClampNeg).toNatClampNeg) (wL w10 (wR w10 11 50 l0)) ∧ ((¬ (xI w10 (wR w10 11 50 l0) (xI w (wR w 11 5 l0) (xI w (wR w 11 32 l0) l3.toNatClampNeg).toNatClampNeg).toNatClampNeg) = l2) → jX11_measure_44 X A l0 l2 (l3 + 1) w10) ∧ (((xI w10 (wR w10 11 50 l0) (xI w (wR w 11 5 l0) (xI w (wR w 11 32 l0) l3.toNatClampNeg).toNatClampNeg).toNatClampNeg) = l2) → vp_in (xI w (wR w 11 5 l0) (xI w (wR w 11 31 l0) l3.toNatClampNeg).toNatClampNeg) (wL w10 (wR w10 11 50 l0)) ∧ ((¬ (xI w10 (wR w10 11 50 l0) (xI w (wR w 11 5 l0) (xI w (wR w 11 31 l0) l3.toNatClampNeg).toNatClampNeg).toNatClampNeg) = (-1)) → jX11_measure_44 X A l0 l2 (l3 + 1) w10) ∧ (((xI w10 (wR w10 11 50 l0) (xI w (wR w 11 5 l0) (xI w (wR w 11 31 l0) l3.toNatClampNeg).toNatClampNeg).toNatClampNeg) = (-1)) → vp_in (xI w (wR w 11 5 l0) (xI w (wR w 11 31 l0) l3.toNatClampNeg).toNatClampNeg) (wL w10 (wR w10 11 50 l0)) ∧ ∀ w20 : Wd, w20 = yI w10 (wR w10 11 50 l0) (xI w (wR w 11 5 l0) (xI w (wR w 11 31 l0) l3.toNatClampNeg).toNatClampNeg).toNatClampNeg (l2 + 1) → jX11_measure_44 X A l0 l2 (l3 + 1) w20)))))) :
    jX11_measure_44 X A l0 l2 l3 w := by
  refine e_iload_n (pc := 44) (i := 3) dX11_measure_44 rfl rfl ?_
  refine e_aload_n (pc := 45) (i := 0) dX11_measure_45 rfl rfl ?_
  have k1 := hv.1
  replace hv := hv.2
  refine e_getI (pc := 46) dX11_measure_46 fRX11_275 rfl k1 ?_
  refine e_icmp_gt (pc := 49) (tgt := 124) dX11_measure_49 (by decide) (fun h2 => ?_) (fun h2 => ?_)
  · replace hv := hv.1 h2
    refine e_iinc (pc := 124) (v := l2 + 1) (lv' := [(0, vR l0), (2, vI (l2 + 1)), (3, vI l3)]) dX11_measure_124 rfl rfl (by decide) rfl ?_
    refine e_goto (pc := 127) (tgt := 34) dX11_measure_127 (by decide) ?_
    exact EJ.drop [0, 2] rfl hv
  · replace hv := hv.2 h2
    refine e_aload_n (pc := 52) (i := 0) dX11_measure_52 rfl rfl ?_
    refine e_getR (pc := 53) dX11_measure_53 fRX11_23 rfl k1 ?_
    refine e_aload_n (pc := 56) (i := 0) dX11_measure_56 rfl rfl ?_
    refine e_getR (pc := 57) dX11_measure_57 fRX11_99 rfl k1 ?_
    refine e_iload_n (pc := 60) (i := 3) dX11_measure_60 rfl rfl ?_
    have k3 := hv.1
    replace hv := hv.2
    have hi4 := hv.1
    replace hv := hv.2
    refine e_iald (pc := 61) dX11_measure_61 k3 hi4 ?_
    have k5 := hv.1
    replace hv := hv.2
    have hi6 := hv.1
    replace hv := hv.2
    refine e_iald (pc := 62) dX11_measure_62 k5 hi6 ?_
    refine e_istore (pc := 63) (i := 4) (lv' := [(0, vR l0), (2, vI l2), (3, vI l3), (4, vI (xI w (wR w 11 5 l0) (xI w (wR w 11 31 l0) l3.toNatClampNeg).toNatClampNeg))]) dX11_measure_63 (by decide) rfl ?_
    refine e_aload_n (pc := 65) (i := 0) dX11_measure_65 rfl rfl ?_
    refine e_getR (pc := 66) dX11_measure_66 fRX11_23 rfl k1 ?_
    refine e_aload_n (pc := 69) (i := 0) dX11_measure_69 rfl rfl ?_
    refine e_getR (pc := 70) dX11_measure_70 fRX11_102 rfl k1 ?_
    refine e_iload_n (pc := 73) (i := 3) dX11_measure_73 rfl rfl ?_
    have k7 := hv.1
    replace hv := hv.2
    have hi8 := hv.1
    replace hv := hv.2
    refine e_iald (pc := 74) dX11_measure_74 k7 hi8 ?_
    have hi9 := hv.1
    replace hv := hv.2
    refine e_iald (pc := 75) dX11_measure_75 k5 hi9 ?_
    refine e_istore (pc := 76) (i := 5) (lv' := [(0, vR l0), (2, vI l2), (3, vI l3), (4, vI (xI w (wR w 11 5 l0) (xI w (wR w 11 31 l0) l3.toNatClampNeg).toNatClampNeg)), (5, vI (xI w (wR w 11 5 l0) (xI w (wR w 11 32 l0) l3.toNatClampNeg).toNatClampNeg))]) dX11_measure_76 (by decide) rfl ?_
    refine e_aload_n (pc := 78) (i := 0) dX11_measure_78 rfl rfl ?_
    refine e_iload_n (pc := 79) (i := 3) dX11_measure_79 rfl rfl ?_
    refine e_callVi (pc := 80) (ci := 11) (st := []) (rc' := 0) (rs' := 0) (B' := bX11_isUndone) [vI l3] dX11_measure_80 vRX11_278 kX11_isUndone (by decide) rfl k1 rfl rfl (Nat.le_of_ble_eq_true rfl) ⟨Nat.le_of_ble_eq_true rfl, Nat.le_of_ble_eq_true rfl⟩ rfl rfl hv (fun x11 w10 hv => ?_)
    refine e_if_ne (pc := 83) (tgt := 118) dX11_measure_83 (by decide) (fun h12 => ?_) (fun h12 => ?_)
    · replace hv := hv.1 h12
      refine e_iinc (pc := 118) (v := l3 + 1) (lv' := [(0, vR l0), (2, vI l2), (3, vI (l3 + 1)), (4, vI (xI w (wR w 11 5 l0) (xI w (wR w 11 31 l0) l3.toNatClampNeg).toNatClampNeg)), (5, vI (xI w (wR w 11 5 l0) (xI w (wR w 11 32 l0) l3.toNatClampNeg).toNatClampNeg))]) dX11_measure_118 rfl rfl (by decide) rfl ?_
      refine e_goto (pc := 121) (tgt := 44) dX11_measure_121 (by decide) ?_
      exact EJ.drop [0, 2, 3] rfl hv
    · replace hv := hv.2 h12
      refine e_aload_n (pc := 86) (i := 0) dX11_measure_86 rfl rfl ?_
      have k13 := hv.1
      replace hv := hv.2
      refine e_getR (pc := 87) dX11_measure_87 fRX11_130 rfl k13 ?_
      refine e_iload (pc := 90) (i := 5) dX11_measure_90 rfl ?_
      have k14 := hv.1
      replace hv := hv.2
      have hi15 := hv.1
      replace hv := hv.2
      refine e_iald (pc := 92) dX11_measure_92 k14 hi15 ?_
      refine e_iload_n (pc := 93) (i := 2) dX11_measure_93 rfl rfl ?_
      refine e_icmp_ne (pc := 94) (tgt := 118) dX11_measure_94 (by decide) (fun h16 => ?_) (fun h16 => ?_)
      · replace hv := hv.1 h16
        refine e_iinc (pc := 118) (v := l3 + 1) (lv' := [(0, vR l0), (2, vI l2), (3, vI (l3 + 1)), (4, vI (xI w (wR w 11 5 l0) (xI w (wR w 11 31 l0) l3.toNatClampNeg).toNatClampNeg)), (5, vI (xI w (wR w 11 5 l0) (xI w (wR w 11 32 l0) l3.toNatClampNeg).toNatClampNeg))]) dX11_measure_118 rfl rfl (by decide) rfl ?_
        refine e_goto (pc := 121) (tgt := 44) dX11_measure_121 (by decide) ?_
        exact EJ.drop [0, 2, 3] rfl hv
      · replace hv := hv.2 h16
        refine e_aload_n (pc := 97) (i := 0) dX11_measure_97 rfl rfl ?_
        refine e_getR (pc := 98) dX11_measure_98 fRX11_130 rfl k13 ?_
        refine e_iload (pc := 101) (i := 4) dX11_measure_101 rfl ?_
        have hi17 := hv.1
        replace hv := hv.2
        refine e_iald (pc := 103) dX11_measure_103 k14 hi17 ?_
        refine e_iconst (pc := 104) (v := (-1)) dX11_measure_104 (by decide) ?_
        refine e_icmp_ne (pc := 105) (tgt := 118) dX11_measure_105 (by decide) (fun h18 => ?_) (fun h18 => ?_)
        · replace hv := hv.1 h18
          refine e_iinc (pc := 118) (v := l3 + 1) (lv' := [(0, vR l0), (2, vI l2), (3, vI (l3 + 1)), (4, vI (xI w (wR w 11 5 l0) (xI w (wR w 11 31 l0) l3.toNatClampNeg).toNatClampNeg)), (5, vI (xI w (wR w 11 5 l0) (xI w (wR w 11 32 l0) l3.toNatClampNeg).toNatClampNeg))]) dX11_measure_118 rfl rfl (by decide) rfl ?_
          refine e_goto (pc := 121) (tgt := 44) dX11_measure_121 (by decide) ?_
          exact EJ.drop [0, 2, 3] rfl hv
        · replace hv := hv.2 h18
          refine e_aload_n (pc := 108) (i := 0) dX11_measure_108 rfl rfl ?_
          refine e_getR (pc := 109) dX11_measure_109 fRX11_130 rfl k13 ?_
          refine e_iload (pc := 112) (i := 4) dX11_measure_112 rfl ?_
          refine e_iload_n (pc := 114) (i := 2) dX11_measure_114 rfl rfl ?_
          refine e_iconst (pc := 115) (v := 1) dX11_measure_115 (by decide) ?_
          refine e_iadd (pc := 116) dX11_measure_116 ?_
          have hi19 := hv.1
          replace hv := hv.2
          obtain ⟨w20, hw20⟩ : ∃ w20 : Wd, w20 = yI w10 (wR w10 11 50 l0) (xI w (wR w 11 5 l0) (xI w (wR w 11 31 l0) l3.toNatClampNeg).toNatClampNeg).toNatClampNeg (l2 + 1) := ⟨_, rfl⟩
          replace hv := hv w20 hw20
          refine e_iast (pc := 117) dX11_measure_117 k14 hi19 ?_
          rw [← hw20]
          refine e_iinc (pc := 118) (v := l3 + 1) (lv' := [(0, vR l0), (2, vI l2), (3, vI (l3 + 1)), (4, vI (xI w (wR w 11 5 l0) (xI w (wR w 11 31 l0) l3.toNatClampNeg).toNatClampNeg)), (5, vI (xI w (wR w 11 5 l0) (xI w (wR w 11 32 l0) l3.toNatClampNeg).toNatClampNeg))]) dX11_measure_118 rfl rfl (by decide) rfl ?_
          refine e_goto (pc := 121) (tgt := 44) dX11_measure_121 (by decide) ?_
          exact EJ.drop [0, 2, 3] rfl hv
set_option maxRecDepth 100000 in
set_option maxHeartbeats 4000000 in
theorem tX11_measure_34 (X : Cx) (A : Wd → Prop) (l0 : Nat) (l2 : Int32) (w : Wd)
    (hv : wK w l0 = 12 ∧ (((wI w 11 30 l0) ≤ l2) → A w) ∧ ((¬ (wI w 11 30 l0) ≤ l2) → jX11_measure_44 X A l0 l2 1 w)) :
    jX11_measure_34 X A l0 l2 w := by
  refine e_iload_n (pc := 34) (i := 2) dX11_measure_34 rfl rfl ?_
  refine e_aload_n (pc := 35) (i := 0) dX11_measure_35 rfl rfl ?_
  have k1 := hv.1
  replace hv := hv.2
  refine e_getI (pc := 36) dX11_measure_36 fRX11_169 rfl k1 ?_
  refine e_icmp_ge (pc := 39) (tgt := 130) dX11_measure_39 (by decide) (fun h2 => ?_) (fun h2 => ?_)
  · replace hv := hv.1 h2
    exact e_vreturn (pc := 130) dX11_measure_130 rfl ⟨rfl, hv⟩
  · replace hv := hv.2 h2
    refine e_iconst (pc := 42) (v := 1) dX11_measure_42 (by decide) ?_
    refine e_istore_n (pc := 43) (i := 3) (lv' := [(0, vR l0), (2, vI l2), (3, vI 1)]) dX11_measure_43 rfl (by decide) rfl ?_
    exact hv
set_option maxRecDepth 100000 in
set_option maxHeartbeats 4000000 in
theorem tX11_measure_2 (X : Cx) (A : Wd → Prop) (l0 : Nat) (l1 : Int32) (l2 : Int32) (w : Wd)
    (hv : wK w l0 = 12 ∧ (((wI w 11 30 l0) < l2) → jX11_measure_34 X A l0 0 w) ∧ ((¬ (wI w 11 30 l0) < l2) → ((¬ l2 = l1) → wK w (wR w 11 50 l0) = 13 ∧ vp_in l2 (wL w (wR w 11 50 l0)) ∧ ∀ w6 : Wd, w6 = yI w (wR w 11 50 l0) l2.toNatClampNeg (-1) → jX11_measure_2 X A l0 l1 (l2 + 1) w6) ∧ ((l2 = l1) → wK w (wR w 11 50 l0) = 13 ∧ vp_in l2 (wL w (wR w 11 50 l0)) ∧ ∀ w9 : Wd, w9 = yI w (wR w 11 50 l0) l2.toNatClampNeg 0 → jX11_measure_2 X A l0 l1 (l2 + 1) w9))) :
    jX11_measure_2 X A l0 l1 l2 w := by
  refine e_iload_n (pc := 2) (i := 2) dX11_measure_2 rfl rfl ?_
  refine e_aload_n (pc := 3) (i := 0) dX11_measure_3 rfl rfl ?_
  have k1 := hv.1
  replace hv := hv.2
  refine e_getI (pc := 4) dX11_measure_4 fRX11_169 rfl k1 ?_
  refine e_icmp_gt (pc := 7) (tgt := 32) dX11_measure_7 (by decide) (fun h2 => ?_) (fun h2 => ?_)
  · replace hv := hv.1 h2
    refine e_iconst (pc := 32) (v := 0) dX11_measure_32 (by decide) ?_
    refine e_istore_n (pc := 33) (i := 2) (lv' := [(0, vR l0), (1, vI l1), (2, vI 0)]) dX11_measure_33 rfl (by decide) rfl ?_
    exact EJ.drop [0, 2] rfl hv
  · replace hv := hv.2 h2
    refine e_aload_n (pc := 10) (i := 0) dX11_measure_10 rfl rfl ?_
    refine e_getR (pc := 11) dX11_measure_11 fRX11_130 rfl k1 ?_
    refine e_iload_n (pc := 14) (i := 2) dX11_measure_14 rfl rfl ?_
    refine e_iload_n (pc := 15) (i := 2) dX11_measure_15 rfl rfl ?_
    refine e_iload_n (pc := 16) (i := 1) dX11_measure_16 rfl rfl ?_
    refine e_icmp_ne (pc := 17) (tgt := 24) dX11_measure_17 (by decide) (fun h3 => ?_) (fun h3 => ?_)
    · replace hv := hv.1 h3
      refine e_iconst (pc := 24) (v := (-1)) dX11_measure_24 (by decide) ?_
      have k4 := hv.1
      replace hv := hv.2
      have hi5 := hv.1
      replace hv := hv.2
      obtain ⟨w6, hw6⟩ : ∃ w6 : Wd, w6 = yI w (wR w 11 50 l0) l2.toNatClampNeg (-1) := ⟨_, rfl⟩
      replace hv := hv w6 hw6
      refine e_iast (pc := 25) dX11_measure_25 k4 hi5 ?_
      rw [← hw6]
      refine e_iinc (pc := 26) (v := l2 + 1) (lv' := [(0, vR l0), (1, vI l1), (2, vI (l2 + 1))]) dX11_measure_26 rfl rfl (by decide) rfl ?_
      refine e_goto (pc := 29) (tgt := 2) dX11_measure_29 (by decide) ?_
      exact hv
    · replace hv := hv.2 h3
      refine e_iconst (pc := 20) (v := 0) dX11_measure_20 (by decide) ?_
      refine e_goto (pc := 21) (tgt := 25) dX11_measure_21 (by decide) ?_
      have k7 := hv.1
      replace hv := hv.2
      have hi8 := hv.1
      replace hv := hv.2
      obtain ⟨w9, hw9⟩ : ∃ w9 : Wd, w9 = yI w (wR w 11 50 l0) l2.toNatClampNeg 0 := ⟨_, rfl⟩
      replace hv := hv w9 hw9
      refine e_iast (pc := 25) dX11_measure_25 k7 hi8 ?_
      rw [← hw9]
      refine e_iinc (pc := 26) (v := l2 + 1) (lv' := [(0, vR l0), (1, vI l1), (2, vI (l2 + 1))]) dX11_measure_26 rfl rfl (by decide) rfl ?_
      refine e_goto (pc := 29) (tgt := 2) dX11_measure_29 (by decide) ?_
      exact hv
set_option maxRecDepth 100000 in
set_option maxHeartbeats 4000000 in
theorem oX11_measure (X : Cx) (A : Wd → Prop) (a0 : Nat) (a1 : Int32) (w : Wd)
    (hv : jX11_measure_2 X A a0 a1 1 w) :
    Ct X bX11_measure mX11_measure [vR a0, vI a1] w (qV A) := by
  refine Ct.of (lv := [(0, vR a0), (1, vI a1)]) rfl (Nat.le_of_ble_eq_true rfl) rfl ?_
  refine e_iconst (pc := 0) (v := 1) dX11_measure_0 (by decide) ?_
  refine e_istore_n (pc := 1) (i := 2) (lv' := [(0, vR a0), (1, vI a1), (2, vI 1)]) dX11_measure_1 rfl (by decide) rfl ?_
  exact hv
abbrev jX11_draw_14 (X : Cx) (A : Wd → Prop) (l0 : Nat) (l1 : Int32) (l3 : Int32) (w : Wd) : Prop := EJ X mX11_draw (vw X bX11_draw (qV A)) 0 0 14 [(0, vR l0), (1, vI l1), (3, vI l3)] [] w
abbrev jX11_draw_48 (X : Cx) (A : Wd → Prop) (l0 : Nat) (l1 : Int32) (l3 : Int32) (l4 : Int32) (l5 : Int32) (w : Wd) : Prop := EJ X mX11_draw (vw X bX11_draw (qV A)) 0 0 48 [(0, vR l0), (1, vI l1), (3, vI l3), (4, vI l4), (5, vI l5)] [] w
set_option maxRecDepth 100000 in
set_option maxHeartbeats 4000000 in
theorem tX11_draw_48 (X : Cx) (A : Wd → Prop) (l0 : Nat) (l1 : Int32) (l3 : Int32) (l4 : Int32) (l5 : Int32) (w : Wd)
    (hv : ((l5 ≤ 0) → wK w l0 = 12 ∧ wK w (wR w 11 32 l0) = 13 ∧ vp_in l4 (wL w (wR w 11 32 l0)) ∧ wK w (wR w 11 5 l0) = 13 ∧ vp_in (xI w (wR w 11 32 l0) l4.toNatClampNeg) (wL w (wR w 11 5 l0)) ∧ jX11_draw_14 X A l0 l1 (xI w (wR w 11 5 l0) (xI w (wR w 11 32 l0) l4.toNatClampNeg).toNatClampNeg) w) ∧ ((¬ l5 ≤ 0) → wK w l0 = 12 ∧ Ct X bX11_isUndone mX11_isUndone [vR l0, vI l5] w (qI fun x8 w7 => ((¬ x8 = 0) → (((0 : Int32) = 0) → jX11_draw_48 X A l0 l1 l3 l4 (l5 + (-1)) w7) ∧ ((¬ (0 : Int32) = 0) → jX11_draw_48 X A l0 l1 l3 l5 (l5 + (-1)) w7)) ∧ ((x8 = 0) → wK w7 l0 = 12 ∧ wK w7 (wR w7 11 31 l0) = 13 ∧ vp_in l5 (wL w7 (wR w7 11 31 l0)) ∧ wK w7 (wR w7 11 5 l0) = 13 ∧ vp_in (xI w7 (wR w7 11 31 l0) l5.toNatClampNeg) (wL w7 (wR w7 11 5 l0)) ∧ ((¬ (xI w7 (wR w7 11 5 l0) (xI w7 (wR w7 11 31 l0) l5.toNatClampNeg).toNatClampNeg) = l3) → (((0 : Int32) = 0) → jX11_draw_48 X A l0 l1 l3 l4 (l5 + (-1)) w7) ∧ ((¬ (0 : Int32) = 0) → jX11_draw_48 X A l0 l1 l3 l5 (l5 + (-1)) w7)) ∧ (((xI w7 (wR w7 11 5 l0) (xI w7 (wR w7 11 31 l0) l5.toNatClampNeg).toNatClampNeg) = l3) → wK w7 (wR w7 11 32 l0) = 13 ∧ vp_in l5 (wL w7 (wR w7 11 32 l0)) ∧ vp_in (xI w7 (wR w7 11 32 l0) l5.toNatClampNeg) (wL w7 (wR w7 11 5 l0)) ∧ wK w7 (wR w7 11 50 l0) = 13 ∧ vp_in (xI w7 (wR w7 11 5 l0) (xI w7 (wR w7 11 32 l0) l5.toNatClampNeg).toNatClampNeg) (wL w7 (wR w7 11 50 l0)) ∧ vp_in l3 (wL w7 (wR w7 11 50 l0)) ∧ ((¬ (xI w7 (wR w7 11 50 l0) (xI w7 (wR w7 11 5 l0) (xI w7 (wR w7 11 32 l0) l5.toNatClampNeg).toNatClampNeg).toNatClampNeg) = ((xI w7 (wR w7 11 50 l0) l3.toNatClampNeg) - 1)) → (((0 : Int32) = 0) → jX11_draw_48 X A l0 l1 l3 l4 (l5 + (-1)) w7) ∧ ((¬ (0 : Int32) = 0) → jX11_draw_48 X A l0 l1 l3 l5 (l5 + (-1)) w7)) ∧ (((xI w7 (wR w7 11 50 l0) (xI w7 (wR w7 11 5 l0) (xI w7 (wR w7 11 32 l0) l5.toNatClampNeg).toNatClampNeg).toNatClampNeg) = ((xI w7 (wR w7 11 50 l0) l3.toNatClampNeg) - 1)) → (((1 : Int32) = 0) → jX11_draw_48 X A l0 l1 l3 l4 (l5 + (-1)) w7) ∧ ((¬ (1 : Int32) = 0) → jX11_draw_48 X A l0 l1 l3 l5 (l5 + (-1)) w7))))))) :
    jX11_draw_48 X A l0 l1 l3 l4 l5 w := by
  refine e_iload (pc := 48) (i := 5) dX11_draw_48 rfl ?_
  refine e_if_le (pc := 50) (tgt := 133) dX11_draw_50 (by decide) (fun h1 => ?_) (fun h1 => ?_)
  · replace hv := hv.1 h1
    refine e_aload_n (pc := 133) (i := 0) dX11_draw_133 rfl rfl ?_
    have k2 := hv.1
    replace hv := hv.2
    refine e_getR (pc := 134) dX11_draw_134 fRX11_23 rfl k2 ?_
    refine e_aload_n (pc := 137) (i := 0) dX11_draw_137 rfl rfl ?_
    refine e_getR (pc := 138) dX11_draw_138 fRX11_102 rfl k2 ?_
    refine e_iload (pc := 141) (i := 4) dX11_draw_141 rfl ?_
    have k3 := hv.1
    replace hv := hv.2
    have hi4 := hv.1
    replace hv := hv.2
    refine e_iald (pc := 143) dX11_draw_143 k3 hi4 ?_
    have k5 := hv.1
    replace hv := hv.2
    have hi6 := hv.1
    replace hv := hv.2
    refine e_iald (pc := 144) dX11_draw_144 k5 hi6 ?_
    refine e_istore_n (pc := 145) (i := 3) (lv' := [(0, vR l0), (1, vI l1), (3, vI (xI w (wR w 11 5 l0) (xI w (wR w 11 32 l0) l4.toNatClampNeg).toNatClampNeg)), (4, vI l4), (5, vI l5)]) dX11_draw_145 rfl (by decide) rfl ?_
    refine e_goto (pc := 146) (tgt := 14) dX11_draw_146 (by decide) ?_
    exact EJ.drop [0, 1, 3] rfl hv
  · replace hv := hv.2 h1
    refine e_aload_n (pc := 53) (i := 0) dX11_draw_53 rfl rfl ?_
    refine e_iload (pc := 54) (i := 5) dX11_draw_54 rfl ?_
    have k9 := hv.1
    replace hv := hv.2
    refine e_callVi (pc := 56) (ci := 11) (st := []) (rc' := 0) (rs' := 0) (B' := bX11_isUndone) [vI l5] dX11_draw_56 vRX11_278 kX11_isUndone (by decide) rfl k9 rfl rfl (Nat.le_of_ble_eq_true rfl) ⟨Nat.le_of_ble_eq_true rfl, Nat.le_of_ble_eq_true rfl⟩ rfl rfl hv (fun x8 w7 hv => ?_)
    refine e_if_ne (pc := 59) (tgt := 110) dX11_draw_59 (by decide) (fun h10 => ?_) (fun h10 => ?_)
    · replace hv := hv.1 h10
      refine e_iconst (pc := 110) (v := 0) dX11_draw_110 (by decide) ?_
      refine e_istore (pc := 111) (i := 6) (lv' := [(0, vR l0), (1, vI l1), (3, vI l3), (4, vI l4), (5, vI l5), (6, vI 0)]) dX11_draw_111 (by decide) rfl ?_
      refine e_iload (pc := 113) (i := 6) dX11_draw_113 rfl ?_
      refine e_if_eq (pc := 115) (tgt := 123) dX11_draw_115 (by decide) (fun h11 => ?_) (fun h11 => ?_)
      · replace hv := hv.1 h11
        refine e_iload (pc := 123) (i := 4) dX11_draw_123 rfl ?_
        refine e_istore (pc := 125) (i := 4) (lv' := [(0, vR l0), (1, vI l1), (3, vI l3), (4, vI l4), (5, vI l5), (6, vI 0)]) dX11_draw_125 (by decide) rfl ?_
        refine e_iinc (pc := 127) (v := l5 + (-1)) (lv' := [(0, vR l0), (1, vI l1), (3, vI l3), (4, vI l4), (5, vI (l5 + (-1))), (6, vI 0)]) dX11_draw_127 rfl rfl (by decide) rfl ?_
        refine e_goto (pc := 130) (tgt := 48) dX11_draw_130 (by decide) ?_
        exact EJ.drop [0, 1, 3, 4, 5] rfl hv
      · replace hv := hv.2 h11
        refine e_iload (pc := 118) (i := 5) dX11_draw_118 rfl ?_
        refine e_goto (pc := 120) (tgt := 125) dX11_draw_120 (by decide) ?_
        refine e_istore (pc := 125) (i := 4) (lv' := [(0, vR l0), (1, vI l1), (3, vI l3), (4, vI l5), (5, vI l5), (6, vI 0)]) dX11_draw_125 (by decide) rfl ?_
        refine e_iinc (pc := 127) (v := l5 + (-1)) (lv' := [(0, vR l0), (1, vI l1), (3, vI l3), (4, vI l5), (5, vI (l5 + (-1))), (6, vI 0)]) dX11_draw_127 rfl rfl (by decide) rfl ?_
        refine e_goto (pc := 130) (tgt := 48) dX11_draw_130 (by decide) ?_
        exact EJ.drop [0, 1, 3, 4, 5] rfl hv
    · replace hv := hv.2 h10
      refine e_aload_n (pc := 62) (i := 0) dX11_draw_62 rfl rfl ?_
      have k12 := hv.1
      replace hv := hv.2
      refine e_getR (pc := 63) dX11_draw_63 fRX11_23 rfl k12 ?_
      refine e_aload_n (pc := 66) (i := 0) dX11_draw_66 rfl rfl ?_
      refine e_getR (pc := 67) dX11_draw_67 fRX11_99 rfl k12 ?_
      refine e_iload (pc := 70) (i := 5) dX11_draw_70 rfl ?_
      have k13 := hv.1
      replace hv := hv.2
      have hi14 := hv.1
      replace hv := hv.2
      refine e_iald (pc := 72) dX11_draw_72 k13 hi14 ?_
      have k15 := hv.1
      replace hv := hv.2
      have hi16 := hv.1
      replace hv := hv.2
      refine e_iald (pc := 73) dX11_draw_73 k15 hi16 ?_
      refine e_iload_n (pc := 74) (i := 3) dX11_draw_74 rfl rfl ?_
      refine e_icmp_ne (pc := 75) (tgt := 110) dX11_draw_75 (by decide) (fun h17 => ?_) (fun h17 => ?_)
      · replace hv := hv.1 h17
        refine e_iconst (pc := 110) (v := 0) dX11_draw_110 (by decide) ?_
        refine e_istore (pc := 111) (i := 6) (lv' := [(0, vR l0), (1, vI l1), (3, vI l3), (4, vI l4), (5, vI l5), (6, vI 0)]) dX11_draw_111 (by decide) rfl ?_
        refine e_iload (pc := 113) (i := 6) dX11_draw_113 rfl ?_
        refine e_if_eq (pc := 115) (tgt := 123) dX11_draw_115 (by decide) (fun h18 => ?_) (fun h18 => ?_)
        · replace hv := hv.1 h18
          refine e_iload (pc := 123) (i := 4) dX11_draw_123 rfl ?_
          refine e_istore (pc := 125) (i := 4) (lv' := [(0, vR l0), (1, vI l1), (3, vI l3), (4, vI l4), (5, vI l5), (6, vI 0)]) dX11_draw_125 (by decide) rfl ?_
          refine e_iinc (pc := 127) (v := l5 + (-1)) (lv' := [(0, vR l0), (1, vI l1), (3, vI l3), (4, vI l4), (5, vI (l5 + (-1))), (6, vI 0)]) dX11_draw_127 rfl rfl (by decide) rfl ?_
          refine e_goto (pc := 130) (tgt := 48) dX11_draw_130 (by decide) ?_
          exact EJ.drop [0, 1, 3, 4, 5] rfl hv
        · replace hv := hv.2 h18
          refine e_iload (pc := 118) (i := 5) dX11_draw_118 rfl ?_
          refine e_goto (pc := 120) (tgt := 125) dX11_draw_120 (by decide) ?_
          refine e_istore (pc := 125) (i := 4) (lv' := [(0, vR l0), (1, vI l1), (3, vI l3), (4, vI l5), (5, vI l5), (6, vI 0)]) dX11_draw_125 (by decide) rfl ?_
          refine e_iinc (pc := 127) (v := l5 + (-1)) (lv' := [(0, vR l0), (1, vI l1), (3, vI l3), (4, vI l5), (5, vI (l5 + (-1))), (6, vI 0)]) dX11_draw_127 rfl rfl (by decide) rfl ?_
          refine e_goto (pc := 130) (tgt := 48) dX11_draw_130 (by decide) ?_
          exact EJ.drop [0, 1, 3, 4, 5] rfl hv
      · replace hv := hv.2 h17
        refine e_aload_n (pc := 78) (i := 0) dX11_draw_78 rfl rfl ?_
        refine e_getR (pc := 79) dX11_draw_79 fRX11_130 rfl k12 ?_
        refine e_aload_n (pc := 82) (i := 0) dX11_draw_82 rfl rfl ?_
        refine e_getR (pc := 83) dX11_draw_83 fRX11_23 rfl k12 ?_
        refine e_aload_n (pc := 86) (i := 0) dX11_draw_86 rfl rfl ?_
        refine e_getR (pc := 87) dX11_draw_87 fRX11_102 rfl k12 ?_
        refine e_iload (pc := 90) (i := 5) dX11_draw_90 rfl ?_
        have k19 := hv.1
        replace hv := hv.2
        have hi20 := hv.1
        replace hv := hv.2
        refine e_iald (pc := 92) dX11_draw_92 k19 hi20 ?_
        have hi21 := hv.1
        replace hv := hv.2
        refine e_iald (pc := 93) dX11_draw_93 k15 hi21 ?_
        have k22 := hv.1
        replace hv := hv.2
        have hi23 := hv.1
        replace hv := hv.2
        refine e_iald (pc := 94) dX11_draw_94 k22 hi23 ?_
        refine e_aload_n (pc := 95) (i := 0) dX11_draw_95 rfl rfl ?_
        refine e_getR (pc := 96) dX11_draw_96 fRX11_130 rfl k12 ?_
        refine e_iload_n (pc := 99) (i := 3) dX11_draw_99 rfl rfl ?_
        have hi24 := hv.1
        replace hv := hv.2
        refine e_iald (pc := 100) dX11_draw_100 k22 hi24 ?_
        refine e_iconst (pc := 101) (v := 1) dX11_draw_101 (by decide) ?_
        refine e_isub (pc := 102) dX11_draw_102 ?_
        refine e_icmp_ne (pc := 103) (tgt := 110) dX11_draw_103 (by decide) (fun h25 => ?_) (fun h25 => ?_)
        · replace hv := hv.1 h25
          refine e_iconst (pc := 110) (v := 0) dX11_draw_110 (by decide) ?_
          refine e_istore (pc := 111) (i := 6) (lv' := [(0, vR l0), (1, vI l1), (3, vI l3), (4, vI l4), (5, vI l5), (6, vI 0)]) dX11_draw_111 (by decide) rfl ?_
          refine e_iload (pc := 113) (i := 6) dX11_draw_113 rfl ?_
          refine e_if_eq (pc := 115) (tgt := 123) dX11_draw_115 (by decide) (fun h26 => ?_) (fun h26 => ?_)
          · replace hv := hv.1 h26
            refine e_iload (pc := 123) (i := 4) dX11_draw_123 rfl ?_
            refine e_istore (pc := 125) (i := 4) (lv' := [(0, vR l0), (1, vI l1), (3, vI l3), (4, vI l4), (5, vI l5), (6, vI 0)]) dX11_draw_125 (by decide) rfl ?_
            refine e_iinc (pc := 127) (v := l5 + (-1)) (lv' := [(0, vR l0), (1, vI l1), (3, vI l3), (4, vI l4), (5, vI (l5 + (-1))), (6, vI 0)]) dX11_draw_127 rfl rfl (by decide) rfl ?_
            refine e_goto (pc := 130) (tgt := 48) dX11_draw_130 (by decide) ?_
            exact EJ.drop [0, 1, 3, 4, 5] rfl hv
          · replace hv := hv.2 h26
            refine e_iload (pc := 118) (i := 5) dX11_draw_118 rfl ?_
            refine e_goto (pc := 120) (tgt := 125) dX11_draw_120 (by decide) ?_
            refine e_istore (pc := 125) (i := 4) (lv' := [(0, vR l0), (1, vI l1), (3, vI l3), (4, vI l5), (5, vI l5), (6, vI 0)]) dX11_draw_125 (by decide) rfl ?_
            refine e_iinc (pc := 127) (v := l5 + (-1)) (lv' := [(0, vR l0), (1, vI l1), (3, vI l3), (4, vI l5), (5, vI (l5 + (-1))), (6, vI 0)]) dX11_draw_127 rfl rfl (by decide) rfl ?_
            refine e_goto (pc := 130) (tgt := 48) dX11_draw_130 (by decide) ?_
            exact EJ.drop [0, 1, 3, 4, 5] rfl hv
        · replace hv := hv.2 h25
          refine e_iconst (pc := 106) (v := 1) dX11_draw_106 (by decide) ?_
          refine e_goto (pc := 107) (tgt := 111) dX11_draw_107 (by decide) ?_
          refine e_istore (pc := 111) (i := 6) (lv' := [(0, vR l0), (1, vI l1), (3, vI l3), (4, vI l4), (5, vI l5), (6, vI 1)]) dX11_draw_111 (by decide) rfl ?_
          refine e_iload (pc := 113) (i := 6) dX11_draw_113 rfl ?_
          refine e_if_eq (pc := 115) (tgt := 123) dX11_draw_115 (by decide) (fun h27 => ?_) (fun h27 => ?_)
          · replace hv := hv.1 h27
            refine e_iload (pc := 123) (i := 4) dX11_draw_123 rfl ?_
            refine e_istore (pc := 125) (i := 4) (lv' := [(0, vR l0), (1, vI l1), (3, vI l3), (4, vI l4), (5, vI l5), (6, vI 1)]) dX11_draw_125 (by decide) rfl ?_
            refine e_iinc (pc := 127) (v := l5 + (-1)) (lv' := [(0, vR l0), (1, vI l1), (3, vI l3), (4, vI l4), (5, vI (l5 + (-1))), (6, vI 1)]) dX11_draw_127 rfl rfl (by decide) rfl ?_
            refine e_goto (pc := 130) (tgt := 48) dX11_draw_130 (by decide) ?_
            exact EJ.drop [0, 1, 3, 4, 5] rfl hv
          · replace hv := hv.2 h27
            refine e_iload (pc := 118) (i := 5) dX11_draw_118 rfl ?_
            refine e_goto (pc := 120) (tgt := 125) dX11_draw_120 (by decide) ?_
            refine e_istore (pc := 125) (i := 4) (lv' := [(0, vR l0), (1, vI l1), (3, vI l3), (4, vI l5), (5, vI l5), (6, vI 1)]) dX11_draw_125 (by decide) rfl ?_
            refine e_iinc (pc := 127) (v := l5 + (-1)) (lv' := [(0, vR l0), (1, vI l1), (3, vI l3), (4, vI l5), (5, vI (l5 + (-1))), (6, vI 1)]) dX11_draw_127 rfl rfl (by decide) rfl ?_
            refine e_goto (pc := 130) (tgt := 48) dX11_draw_130 (by decide) ?_
            exact EJ.drop [0, 1, 3, 4, 5] rfl hv
set_option maxRecDepth 100000 in
set_option maxHeartbeats 4000000 in
theorem tX11_draw_14 (X : Cx) (A : Wd → Prop) (l0 : Nat) (l1 : Int32) (l3 : Int32) (w : Wd)
    (hv : ((l3 = l1) → A w) ∧ ((¬ l3 = l1) → wK w l0 = 12 ∧ wK w (wR w 11 51 l0) = 13 ∧ vp_in (wI w 11 52 l0) (wL w (wR w 11 51 l0)) ∧ ∀ w5 : Wd, w5 = yI w (wR w 11 51 l0) (wI w 11 52 l0).toNatClampNeg l3 → ∀ w7 : Wd, w7 = sI w5 11 52 l0 ((wI w5 11 52 l0) + 1) → jX11_draw_48 X A l0 l1 l3 0 (wI w7 11 38 l0) w7)) :
    jX11_draw_14 X A l0 l1 l3 w := by
  refine e_iload_n (pc := 14) (i := 3) dX11_draw_14 rfl rfl ?_
  refine e_iload_n (pc := 15) (i := 1) dX11_draw_15 rfl rfl ?_
  refine e_icmp_eq (pc := 16) (tgt := 149) dX11_draw_16 (by decide) (fun h1 => ?_) (fun h1 => ?_)
  · replace hv := hv.1 h1
    exact e_vreturn (pc := 149) dX11_draw_149 rfl ⟨rfl, hv⟩
  · replace hv := hv.2 h1
    refine e_aload_n (pc := 19) (i := 0) dX11_draw_19 rfl rfl ?_
    have k2 := hv.1
    replace hv := hv.2
    refine e_getR (pc := 20) dX11_draw_20 fRX11_133 rfl k2 ?_
    refine e_aload_n (pc := 23) (i := 0) dX11_draw_23 rfl rfl ?_
    refine e_getI (pc := 24) dX11_draw_24 fRX11_281 rfl k2 ?_
    refine e_iload_n (pc := 27) (i := 3) dX11_draw_27 rfl rfl ?_
    have k3 := hv.1
    replace hv := hv.2
    have hi4 := hv.1
    replace hv := hv.2
    obtain ⟨w5, hw5⟩ : ∃ w5 : Wd, w5 = yI w (wR w 11 51 l0) (wI w 11 52 l0).toNatClampNeg l3 := ⟨_, rfl⟩
    replace hv := hv w5 hw5
    refine e_iast (pc := 28) dX11_draw_28 k3 hi4 ?_
    rw [← hw5]
    refine e_aload_n (pc := 29) (i := 0) dX11_draw_29 rfl rfl ?_
    refine e_dup (pc := 30) dX11_draw_30 rfl ?_
    have k6 : wK w5 l0 = 12 := (by rw [hw5]; exact k2)
    refine e_getI (pc := 31) dX11_draw_31 fRX11_281 rfl k6 ?_
    refine e_iconst (pc := 34) (v := 1) dX11_draw_34 (by decide) ?_
    refine e_iadd (pc := 35) dX11_draw_35 ?_
    obtain ⟨w7, hw7⟩ : ∃ w7 : Wd, w7 = sI w5 11 52 l0 ((wI w5 11 52 l0) + 1) := ⟨_, rfl⟩
    replace hv := hv w7 hw7
    refine e_putI (pc := 36) dX11_draw_36 fRX11_281 (Or.inl rfl) rfl k6 ?_
    rw [← hw7]
    refine e_iconst (pc := 39) (v := 0) dX11_draw_39 (by decide) ?_
    refine e_istore (pc := 40) (i := 4) (lv' := [(0, vR l0), (1, vI l1), (3, vI l3), (4, vI 0)]) dX11_draw_40 (by decide) rfl ?_
    refine e_aload_n (pc := 42) (i := 0) dX11_draw_42 rfl rfl ?_
    have k8 : wK w7 l0 = 12 := (by rw [hw7]; exact k6)
    refine e_getI (pc := 43) dX11_draw_43 fRX11_275 rfl k8 ?_
    refine e_istore (pc := 46) (i := 5) (lv' := [(0, vR l0), (1, vI l1), (3, vI l3), (4, vI 0), (5, vI (wI w7 11 38 l0))]) dX11_draw_46 (by decide) rfl ?_
    exact hv
set_option maxRecDepth 100000 in
set_option maxHeartbeats 4000000 in
theorem oX11_draw (X : Cx) (A : Wd → Prop) (a0 : Nat) (a1 : Int32) (a2 : Int32) (w : Wd)
    (hv : wK w a0 = 12 ∧ wK w (wR w 11 51 a0) = 13 ∧ vp_in 0 (wL w (wR w 11 51 a0)) ∧ ∀ w4 : Wd, w4 = yI w (wR w 11 51 a0) (0 : Int32).toNatClampNeg a1 → ∀ w6 : Wd, w6 = sI w4 11 52 a0 1 → jX11_draw_14 X A a0 a1 a2 w6) :
    Ct X bX11_draw mX11_draw [vR a0, vI a1, vI a2] w (qV A) := by
  refine Ct.of (lv := [(0, vR a0), (1, vI a1), (2, vI a2)]) rfl (Nat.le_of_ble_eq_true rfl) rfl ?_
  refine e_aload_n (pc := 0) (i := 0) dX11_draw_0 rfl rfl ?_
  have k1 := hv.1
  replace hv := hv.2
  refine e_getR (pc := 1) dX11_draw_1 fRX11_133 rfl k1 ?_
  refine e_iconst (pc := 4) (v := 0) dX11_draw_4 (by decide) ?_
  refine e_iload_n (pc := 5) (i := 1) dX11_draw_5 rfl rfl ?_
  have k2 := hv.1
  replace hv := hv.2
  have hi3 := hv.1
  replace hv := hv.2
  obtain ⟨w4, hw4⟩ : ∃ w4 : Wd, w4 = yI w (wR w 11 51 a0) (0 : Int32).toNatClampNeg a1 := ⟨_, rfl⟩
  replace hv := hv w4 hw4
  refine e_iast (pc := 6) dX11_draw_6 k2 hi3 ?_
  rw [← hw4]
  refine e_aload_n (pc := 7) (i := 0) dX11_draw_7 rfl rfl ?_
  refine e_iconst (pc := 8) (v := 1) dX11_draw_8 (by decide) ?_
  have k5 : wK w4 a0 = 12 := (by rw [hw4]; exact k1)
  obtain ⟨w6, hw6⟩ : ∃ w6 : Wd, w6 = sI w4 11 52 a0 1 := ⟨_, rfl⟩
  replace hv := hv w6 hw6
  refine e_putI (pc := 9) dX11_draw_9 fRX11_281 (Or.inl rfl) rfl k5 ?_
  rw [← hw6]
  refine e_iload_n (pc := 12) (i := 2) dX11_draw_12 rfl rfl ?_
  refine e_istore_n (pc := 13) (i := 3) (lv' := [(0, vR a0), (1, vI a1), (2, vI a2), (3, vI a2)]) dX11_draw_13 rfl (by decide) rfl ?_
  exact EJ.drop [0, 1, 3] rfl hv
set_option maxRecDepth 100000 in
set_option maxHeartbeats 4000000 in
theorem oX11_post (X : Cx) (A : Int32 → Wd → Prop) (a0 : Nat) (a1 : Int32) (a2 : Int32) (a3 : Int64) (w : Wd)
    (hv : wK w a0 = 12 ∧ Ct X bX11_isEntry mX11_isEntry [vR a0, vI a1] w (qI fun x2 w1 => ((x2 = 0) → wK w1 a0 = 12 ∧ Ct X bX11_refuse mX11_refuse [vR a0, vI 1] w1 (qI fun x6 w5 => A x6 w5)) ∧ ((¬ x2 = 0) → wK w1 a0 = 12 ∧ Ct X bX11_isEntry mX11_isEntry [vR a0, vI a2] w1 (qI fun x9 w8 => ((¬ x9 = 0) → wK w8 a0 = 12 ∧ wK w8 (wR w8 11 3 a0) = 13 ∧ vp_in a1 (wL w8 (wR w8 11 3 a0)) ∧ (((xI w8 (wR w8 11 3 a0) a1.toNatClampNeg) = 6) → Ct X bX11_refuse mX11_refuse [vR a0, vI 4] w8 (qI fun x17 w16 => A x17 w16)) ∧ ((¬ (xI w8 (wR w8 11 3 a0) a1.toNatClampNeg) = 6) → vp_in a2 (wL w8 (wR w8 11 3 a0)) ∧ ((¬ (xI w8 (wR w8 11 3 a0) a2.toNatClampNeg) = 6) → (((lg_cmp a3 0) < 0) → Ct X bX11_refuse mX11_refuse [vR a0, vI 5] w8 (qI fun x22 w21 => A x22 w21)) ∧ ((¬ (lg_cmp a3 0) < 0) → ((0 < (lg_cmp a3 999999999999)) → Ct X bX11_refuse mX11_refuse [vR a0, vI 5] w8 (qI fun x25 w24 => A x25 w24)) ∧ ((¬ 0 < (lg_cmp a3 999999999999)) → wK w8 (wR w8 11 5 a0) = 13 ∧ vp_in a1 (wL w8 (wR w8 11 5 a0)) ∧ vp_in a2 (wL w8 (wR w8 11 5 a0)) ∧ ((¬ (xI w8 (wR w8 11 5 a0) a1.toNatClampNeg) = (xI w8 (wR w8 11 5 a0) a2.toNatClampNeg)) → Ct X bX11_livesNow mX11_livesNow [vR a0, vI a1] w8 (qI fun x31 w30 => ((x31 = 0) → wK w30 a0 = 12 ∧ Ct X bX11_refuse mX11_refuse [vR a0, vI 6] w30 (qI fun x34 w33 => A x34 w33)) ∧ ((¬ x31 = 0) → wK w30 a0 = 12 ∧ Ct X bX11_lives mX11_lives [vR a0, vI a2] w30 (qI fun x37 w36 => ((x37 = 0) → wK w36 a0 = 12 ∧ Ct X bX11_refuse mX11_refuse [vR a0, vI 6] w36 (qI fun x41 w40 => A x41 w40)) ∧ ((¬ x37 = 0) → wK w36 a0 = 12 ∧ wK w36 (wR w36 11 4 a0) = 13 ∧ vp_in a1 (wL w36 (wR w36 11 4 a0)) ∧ vp_in a2 (wL w36 (wR w36 11 4 a0)) ∧ (((xI w36 (wR w36 11 4 a0) a1.toNatClampNeg) = (xI w36 (wR w36 11 4 a0) a2.toNatClampNeg)) → wK w36 (wR w36 11 5 a0) = 13 ∧ vp_in a1 (wL w36 (wR w36 11 5 a0)) ∧ Ct X bX11_measure mX11_measure [vR a0, vI (xI w36 (wR w36 11 5 a0) a1.toNatClampNeg)] w36 (qV fun w50 => wK w50 a0 = 12 ∧ wK w50 (wR w50 11 5 a0) = 13 ∧ vp_in a2 (wL w50 (wR w50 11 5 a0)) ∧ wK w50 (wR w50 11 50 a0) = 13 ∧ vp_in (xI w50 (wR w50 11 5 a0) a2.toNatClampNeg) (wL w50 (wR w50 11 50 a0)) ∧ (((xI w50 (wR w50 11 50 a0) (xI w50 (wR w50 11 5 a0) a2.toNatClampNeg).toNatClampNeg) = (-1)) → ((¬ (wI w50 11 38 a0) = 100) → ∀ w59 : Wd, w59 = sI w50 11 38 a0 ((wI w50 11 38 a0) + 1) → wK w59 (wR w59 11 31 a0) = 13 ∧ vp_in (wI w59 11 38 a0) (wL w59 (wR w59 11 31 a0)) ∧ ∀ w63 : Wd, w63 = yI w59 (wR w59 11 31 a0) (wI w59 11 38 a0).toNatClampNeg a1 → wK w63 (wR w63 11 32 a0) = 13 ∧ vp_in (wI w63 11 38 a0) (wL w63 (wR w63 11 32 a0)) ∧ ∀ w67 : Wd, w67 = yI w63 (wR w63 11 32 a0) (wI w63 11 38 a0).toNatClampNeg a2 → wK w67 (wR w67 11 33 a0) = 14 ∧ vp_in (wI w67 11 38 a0) (wL w67 (wR w67 11 33 a0)) ∧ ∀ w71 : Wd, w71 = yJ w67 (wR w67 11 33 a0) (wI w67 11 38 a0).toNatClampNeg a3 → Ct X bX11_dateNow mX11_dateNow [vR a0] w71 (qI fun x74 w73 => wK w73 (wR w71 11 34 a0) = 13 ∧ vp_in (wI w71 11 38 a0) (wL w73 (wR w71 11 34 a0)) ∧ ∀ w77 : Wd, w77 = yI w73 (wR w71 11 34 a0) (wI w71 11 38 a0).toNatClampNeg x74 → wK w77 a0 = 12 ∧ wK w77 (wR w77 11 35 a0) = 13 ∧ vp_in (wI w77 11 38 a0) (wL w77 (wR w77 11 35 a0)) ∧ ∀ w81 : Wd, w81 = yI w77 (wR w77 11 35 a0) (wI w77 11 38 a0).toNatClampNeg (wI w77 11 39 a0) → wK w81 (wR w81 11 37 a0) = 13 ∧ vp_in (wI w81 11 38 a0) (wL w81 (wR w81 11 37 a0)) ∧ ∀ w85 : Wd, w85 = yI w81 (wR w81 11 37 a0) (wI w81 11 38 a0).toNatClampNeg (-1) → ∀ w87 : Wd, w87 = sI w85 11 41 a0 0 → A (wI w87 11 38 a0) w87)) ∧ (((wI w50 11 38 a0) = 100) → Ct X bX11_refuse mX11_refuse [vR a0, vI 10] w50 (qI fun x90 w89 => A x90 w89))) ∧ ((¬ (xI w50 (wR w50 11 50 a0) (xI w50 (wR w50 11 5 a0) a2.toNatClampNeg).toNatClampNeg) = (-1)) → vp_in a1 (wL w50 (wR w50 11 5 a0)) ∧ vp_in a2 (wL w50 (wR w50 11 5 a0)) ∧ Ct X bX11_draw mX11_draw [vR a0, vI (xI w50 (wR w50 11 5 a0) a1.toNatClampNeg), vI (xI w50 (wR w50 11 5 a0) a2.toNatClampNeg)] w50 (qV fun w93 => wK w93 a0 = 12 ∧ ∀ w96 : Wd, w96 = sI w93 11 44 a0 ((wI w93 11 44 a0) + 1) → Ct X bX11_refuse mX11_refuse [vR a0, vI 9] w96 (qI fun x98 w97 => A x98 w97))))) ∧ ((¬ (xI w36 (wR w36 11 4 a0) a1.toNatClampNeg) = (xI w36 (wR w36 11 4 a0) a2.toNatClampNeg)) → Ct X bX11_refuse mX11_refuse [vR a0, vI 6] w36 (qI fun x101 w100 => A x101 w100))))))) ∧ (((xI w8 (wR w8 11 5 a0) a1.toNatClampNeg) = (xI w8 (wR w8 11 5 a0) a2.toNatClampNeg)) → Ct X bX11_refuse mX11_refuse [vR a0, vI 5] w8 (qI fun x103 w102 => A x103 w102))))) ∧ (((xI w8 (wR w8 11 3 a0) a2.toNatClampNeg) = 6) → Ct X bX11_refuse mX11_refuse [vR a0, vI 4] w8 (qI fun x105 w104 => A x105 w104)))) ∧ ((x9 = 0) → wK w8 a0 = 12 ∧ Ct X bX11_refuse mX11_refuse [vR a0, vI 1] w8 (qI fun x107 w106 => A x107 w106)))))) :
    Ct X bX11_post mX11_post [vR a0, vI a1, vI a2, vJ a3] w (qI A) := by
  refine Ct.of (lv := [(0, vR a0), (1, vI a1), (2, vI a2), (3, vJ a3)]) rfl (Nat.le_of_ble_eq_true rfl) rfl ?_
  refine e_aload_n (pc := 0) (i := 0) dX11_post_0 rfl rfl ?_
  refine e_iload_n (pc := 1) (i := 1) dX11_post_1 rfl rfl ?_
  have k3 := hv.1
  replace hv := hv.2
  refine e_callVi (pc := 2) (ci := 11) (st := []) (rc' := 0) (rs' := 0) (B' := bX11_isEntry) [vI a1] dX11_post_2 vRX11_224 kX11_isEntry (by decide) rfl k3 rfl rfl (Nat.le_of_ble_eq_true rfl) ⟨Nat.le_of_ble_eq_true rfl, Nat.le_of_ble_eq_true rfl⟩ rfl rfl hv (fun x2 w1 hv => ?_)
  refine e_if_eq (pc := 5) (tgt := 16) dX11_post_5 (by decide) (fun h4 => ?_) (fun h4 => ?_)
  · replace hv := hv.1 h4
    refine e_aload_n (pc := 16) (i := 0) dX11_post_16 rfl rfl ?_
    refine e_iconst (pc := 17) (v := 1) dX11_post_17 (by decide) ?_
    have k7 := hv.1
    replace hv := hv.2
    refine e_callVi (pc := 18) (ci := 11) (st := []) (rc' := 0) (rs' := 0) (B' := bX11_refuse) [vI 1] dX11_post_18 vRX11_231 kX11_refuse (by decide) rfl k7 rfl rfl (Nat.le_of_ble_eq_true rfl) ⟨Nat.le_of_ble_eq_true rfl, Nat.le_of_ble_eq_true rfl⟩ rfl rfl hv (fun x6 w5 hv => ?_)
    exact e_ireturn (pc := 21) dX11_post_21 rfl ⟨_, rfl, hv⟩
  · replace hv := hv.2 h4
    refine e_aload_n (pc := 8) (i := 0) dX11_post_8 rfl rfl ?_
    refine e_iload_n (pc := 9) (i := 2) dX11_post_9 rfl rfl ?_
    have k10 := hv.1
    replace hv := hv.2
    refine e_callVi (pc := 10) (ci := 11) (st := []) (rc' := 0) (rs' := 0) (B' := bX11_isEntry) [vI a2] dX11_post_10 vRX11_224 kX11_isEntry (by decide) rfl k10 rfl rfl (Nat.le_of_ble_eq_true rfl) ⟨Nat.le_of_ble_eq_true rfl, Nat.le_of_ble_eq_true rfl⟩ rfl rfl hv (fun x9 w8 hv => ?_)
    refine e_if_ne (pc := 13) (tgt := 22) dX11_post_13 (by decide) (fun h11 => ?_) (fun h11 => ?_)
    · replace hv := hv.1 h11
      refine e_aload_n (pc := 22) (i := 0) dX11_post_22 rfl rfl ?_
      have k12 := hv.1
      replace hv := hv.2
      refine e_getR (pc := 23) dX11_post_23 fRX11_17 rfl k12 ?_
      refine e_iload_n (pc := 26) (i := 1) dX11_post_26 rfl rfl ?_
      have k13 := hv.1
      replace hv := hv.2
      have hi14 := hv.1
      replace hv := hv.2
      refine e_iald (pc := 27) dX11_post_27 k13 hi14 ?_
      refine e_bipush (pc := 28) (v := 6) dX11_post_28 (by decide) ?_
      refine e_icmp_eq (pc := 30) (tgt := 44) dX11_post_30 (by decide) (fun h15 => ?_) (fun h15 => ?_)
      · replace hv := hv.1 h15
        refine e_aload_n (pc := 44) (i := 0) dX11_post_44 rfl rfl ?_
        refine e_iconst (pc := 45) (v := 4) dX11_post_45 (by decide) ?_
        refine e_callVi (pc := 46) (ci := 11) (st := []) (rc' := 0) (rs' := 0) (B' := bX11_refuse) [vI 4] dX11_post_46 vRX11_231 kX11_refuse (by decide) rfl k12 rfl rfl (Nat.le_of_ble_eq_true rfl) ⟨Nat.le_of_ble_eq_true rfl, Nat.le_of_ble_eq_true rfl⟩ rfl rfl hv (fun x17 w16 hv => ?_)
        exact e_ireturn (pc := 49) dX11_post_49 rfl ⟨_, rfl, hv⟩
      · replace hv := hv.2 h15
        refine e_aload_n (pc := 33) (i := 0) dX11_post_33 rfl rfl ?_
        refine e_getR (pc := 34) dX11_post_34 fRX11_17 rfl k12 ?_
        refine e_iload_n (pc := 37) (i := 2) dX11_post_37 rfl rfl ?_
        have hi18 := hv.1
        replace hv := hv.2
        refine e_iald (pc := 38) dX11_post_38 k13 hi18 ?_
        refine e_bipush (pc := 39) (v := 6) dX11_post_39 (by decide) ?_
        refine e_icmp_ne (pc := 41) (tgt := 50) dX11_post_41 (by decide) (fun h19 => ?_) (fun h19 => ?_)
        · replace hv := hv.1 h19
          refine e_lload_n (pc := 50) (i := 3) dX11_post_50 rfl rfl ?_
          refine e_lconst (pc := 51) (v := 0) dX11_post_51 (by decide) ?_
          refine e_lcmp (pc := 52) dX11_post_52 ?_
          refine e_if_lt (pc := 53) (tgt := 79) dX11_post_53 (by decide) (fun h20 => ?_) (fun h20 => ?_)
          · replace hv := hv.1 h20
            refine e_aload_n (pc := 79) (i := 0) dX11_post_79 rfl rfl ?_
            refine e_iconst (pc := 80) (v := 5) dX11_post_80 (by decide) ?_
            refine e_callVi (pc := 81) (ci := 11) (st := []) (rc' := 0) (rs' := 0) (B' := bX11_refuse) [vI 5] dX11_post_81 vRX11_231 kX11_refuse (by decide) rfl k12 rfl rfl (Nat.le_of_ble_eq_true rfl) ⟨Nat.le_of_ble_eq_true rfl, Nat.le_of_ble_eq_true rfl⟩ rfl rfl hv (fun x22 w21 hv => ?_)
            exact e_ireturn (pc := 84) dX11_post_84 rfl ⟨_, rfl, hv⟩
          · replace hv := hv.2 h20
            refine e_lload_n (pc := 56) (i := 3) dX11_post_56 rfl rfl ?_
            refine e_ldc2 (pc := 57) (v := 999999999999) dX11_post_57 (tb_a5 176 (by decide +kernel) rfl) ?_
            refine e_lcmp (pc := 60) dX11_post_60 ?_
            refine e_if_gt (pc := 61) (tgt := 79) dX11_post_61 (by decide) (fun h23 => ?_) (fun h23 => ?_)
            · replace hv := hv.1 h23
              refine e_aload_n (pc := 79) (i := 0) dX11_post_79 rfl rfl ?_
              refine e_iconst (pc := 80) (v := 5) dX11_post_80 (by decide) ?_
              refine e_callVi (pc := 81) (ci := 11) (st := []) (rc' := 0) (rs' := 0) (B' := bX11_refuse) [vI 5] dX11_post_81 vRX11_231 kX11_refuse (by decide) rfl k12 rfl rfl (Nat.le_of_ble_eq_true rfl) ⟨Nat.le_of_ble_eq_true rfl, Nat.le_of_ble_eq_true rfl⟩ rfl rfl hv (fun x25 w24 hv => ?_)
              exact e_ireturn (pc := 84) dX11_post_84 rfl ⟨_, rfl, hv⟩
            · replace hv := hv.2 h23
              refine e_aload_n (pc := 64) (i := 0) dX11_post_64 rfl rfl ?_
              refine e_getR (pc := 65) dX11_post_65 fRX11_23 rfl k12 ?_
              refine e_iload_n (pc := 68) (i := 1) dX11_post_68 rfl rfl ?_
              have k26 := hv.1
              replace hv := hv.2
              have hi27 := hv.1
              replace hv := hv.2
              refine e_iald (pc := 69) dX11_post_69 k26 hi27 ?_
              refine e_aload_n (pc := 70) (i := 0) dX11_post_70 rfl rfl ?_
              refine e_getR (pc := 71) dX11_post_71 fRX11_23 rfl k12 ?_
              refine e_iload_n (pc := 74) (i := 2) dX11_post_74 rfl rfl ?_
              have hi28 := hv.1
              replace hv := hv.2
              refine e_iald (pc := 75) dX11_post_75 k26 hi28 ?_
              refine e_icmp_ne (pc := 76) (tgt := 85) dX11_post_76 (by decide) (fun h29 => ?_) (fun h29 => ?_)
              · replace hv := hv.1 h29
                refine e_aload_n (pc := 85) (i := 0) dX11_post_85 rfl rfl ?_
                refine e_iload_n (pc := 86) (i := 1) dX11_post_86 rfl rfl ?_
                refine e_callVi (pc := 87) (ci := 11) (st := []) (rc' := 0) (rs' := 0) (B' := bX11_livesNow) [vI a1] dX11_post_87 vRX11_260 kX11_livesNow (by decide) rfl k12 rfl rfl (Nat.le_of_ble_eq_true rfl) ⟨Nat.le_of_ble_eq_true rfl, Nat.le_of_ble_eq_true rfl⟩ rfl rfl hv (fun x31 w30 hv => ?_)
                refine e_if_eq (pc := 90) (tgt := 116) dX11_post_90 (by decide) (fun h32 => ?_) (fun h32 => ?_)
                · replace hv := hv.1 h32
                  refine e_aload_n (pc := 116) (i := 0) dX11_post_116 rfl rfl ?_
                  refine e_bipush (pc := 117) (v := 6) dX11_post_117 (by decide) ?_
                  have k35 := hv.1
                  replace hv := hv.2
                  refine e_callVi (pc := 119) (ci := 11) (st := []) (rc' := 0) (rs' := 0) (B' := bX11_refuse) [vI 6] dX11_post_119 vRX11_231 kX11_refuse (by decide) rfl k35 rfl rfl (Nat.le_of_ble_eq_true rfl) ⟨Nat.le_of_ble_eq_true rfl, Nat.le_of_ble_eq_true rfl⟩ rfl rfl hv (fun x34 w33 hv => ?_)
                  exact e_ireturn (pc := 122) dX11_post_122 rfl ⟨_, rfl, hv⟩
                · replace hv := hv.2 h32
                  refine e_aload_n (pc := 93) (i := 0) dX11_post_93 rfl rfl ?_
                  refine e_iload_n (pc := 94) (i := 2) dX11_post_94 rfl rfl ?_
                  have k38 := hv.1
                  replace hv := hv.2
                  refine e_callVi (pc := 95) (ci := 11) (st := []) (rc' := 0) (rs' := 0) (B' := bX11_lives) [vI a2] dX11_post_95 vRX11_195 kX11_lives (by decide) rfl k38 rfl rfl (Nat.le_of_ble_eq_true rfl) ⟨Nat.le_of_ble_eq_true rfl, Nat.le_of_ble_eq_true rfl⟩ rfl rfl hv (fun x37 w36 hv => ?_)
                  refine e_if_eq (pc := 98) (tgt := 116) dX11_post_98 (by decide) (fun h39 => ?_) (fun h39 => ?_)
                  · replace hv := hv.1 h39
                    refine e_aload_n (pc := 116) (i := 0) dX11_post_116 rfl rfl ?_
                    refine e_bipush (pc := 117) (v := 6) dX11_post_117 (by decide) ?_
                    have k42 := hv.1
                    replace hv := hv.2
                    refine e_callVi (pc := 119) (ci := 11) (st := []) (rc' := 0) (rs' := 0) (B' := bX11_refuse) [vI 6] dX11_post_119 vRX11_231 kX11_refuse (by decide) rfl k42 rfl rfl (Nat.le_of_ble_eq_true rfl) ⟨Nat.le_of_ble_eq_true rfl, Nat.le_of_ble_eq_true rfl⟩ rfl rfl hv (fun x41 w40 hv => ?_)
                    exact e_ireturn (pc := 122) dX11_post_122 rfl ⟨_, rfl, hv⟩
                  · replace hv := hv.2 h39
                    refine e_aload_n (pc := 101) (i := 0) dX11_post_101 rfl rfl ?_
                    have k43 := hv.1
                    replace hv := hv.2
                    refine e_getR (pc := 102) dX11_post_102 fRX11_20 rfl k43 ?_
                    refine e_iload_n (pc := 105) (i := 1) dX11_post_105 rfl rfl ?_
                    have k44 := hv.1
                    replace hv := hv.2
                    have hi45 := hv.1
                    replace hv := hv.2
                    refine e_iald (pc := 106) dX11_post_106 k44 hi45 ?_
                    refine e_aload_n (pc := 107) (i := 0) dX11_post_107 rfl rfl ?_
                    refine e_getR (pc := 108) dX11_post_108 fRX11_20 rfl k43 ?_
                    refine e_iload_n (pc := 111) (i := 2) dX11_post_111 rfl rfl ?_
                    have hi46 := hv.1
                    replace hv := hv.2
                    refine e_iald (pc := 112) dX11_post_112 k44 hi46 ?_
                    refine e_icmp_eq (pc := 113) (tgt := 123) dX11_post_113 (by decide) (fun h47 => ?_) (fun h47 => ?_)
                    · replace hv := hv.1 h47
                      refine e_aload_n (pc := 123) (i := 0) dX11_post_123 rfl rfl ?_
                      refine e_aload_n (pc := 124) (i := 0) dX11_post_124 rfl rfl ?_
                      refine e_getR (pc := 125) dX11_post_125 fRX11_23 rfl k43 ?_
                      refine e_iload_n (pc := 128) (i := 1) dX11_post_128 rfl rfl ?_
                      have k48 := hv.1
                      replace hv := hv.2
                      have hi49 := hv.1
                      replace hv := hv.2
                      refine e_iald (pc := 129) dX11_post_129 k48 hi49 ?_
                      refine e_callVv (pc := 130) (ci := 11) (st := []) (rc' := 0) (rs' := 0) (B' := bX11_measure) [vI (xI w36 (wR w36 11 5 a0) a1.toNatClampNeg)] dX11_post_130 vRX11_284 kX11_measure (by decide) rfl k43 rfl rfl (Nat.le_of_ble_eq_true rfl) ⟨Nat.le_of_ble_eq_true rfl, Nat.le_of_ble_eq_true rfl⟩ rfl rfl hv (fun w50 hv => ?_)
                      refine e_aload_n (pc := 133) (i := 0) dX11_post_133 rfl rfl ?_
                      have k52 := hv.1
                      replace hv := hv.2
                      refine e_getR (pc := 134) dX11_post_134 fRX11_130 rfl k52 ?_
                      refine e_aload_n (pc := 137) (i := 0) dX11_post_137 rfl rfl ?_
                      refine e_getR (pc := 138) dX11_post_138 fRX11_23 rfl k52 ?_
                      refine e_iload_n (pc := 141) (i := 2) dX11_post_141 rfl rfl ?_
                      have k53 := hv.1
                      replace hv := hv.2
                      have hi54 := hv.1
                      replace hv := hv.2
                      refine e_iald (pc := 142) dX11_post_142 k53 hi54 ?_
                      have k55 := hv.1
                      replace hv := hv.2
                      have hi56 := hv.1
                      replace hv := hv.2
                      refine e_iald (pc := 143) dX11_post_143 k55 hi56 ?_
                      refine e_iconst (pc := 144) (v := (-1)) dX11_post_144 (by decide) ?_
                      refine e_icmp_eq (pc := 145) (tgt := 181) dX11_post_145 (by decide) (fun h57 => ?_) (fun h57 => ?_)
                      · replace hv := hv.1 h57
                        refine e_aload_n (pc := 181) (i := 0) dX11_post_181 rfl rfl ?_
                        refine e_getI (pc := 182) dX11_post_182 fRX11_275 rfl k52 ?_
                        refine e_bipush (pc := 185) (v := 100) dX11_post_185 (by decide) ?_
                        refine e_icmp_ne (pc := 187) (tgt := 197) dX11_post_187 (by decide) (fun h58 => ?_) (fun h58 => ?_)
                        · replace hv := hv.1 h58
                          refine e_aload_n (pc := 197) (i := 0) dX11_post_197 rfl rfl ?_
                          refine e_dup (pc := 198) dX11_post_198 rfl ?_
                          refine e_getI (pc := 199) dX11_post_199 fRX11_275 rfl k52 ?_
                          refine e_iconst (pc := 202) (v := 1) dX11_post_202 (by decide) ?_
                          refine e_iadd (pc := 203) dX11_post_203 ?_
                          obtain ⟨w59, hw59⟩ : ∃ w59 : Wd, w59 = sI w50 11 38 a0 ((wI w50 11 38 a0) + 1) := ⟨_, rfl⟩
                          replace hv := hv w59 hw59
                          refine e_putI (pc := 204) dX11_post_204 fRX11_275 (Or.inl rfl) rfl k52 ?_
                          rw [← hw59]
                          refine e_aload_n (pc := 207) (i := 0) dX11_post_207 rfl rfl ?_
                          have k60 : wK w59 a0 = 12 := (by rw [hw59]; exact k52)
                          refine e_getR (pc := 208) dX11_post_208 fRX11_99 rfl k60 ?_
                          refine e_aload_n (pc := 211) (i := 0) dX11_post_211 rfl rfl ?_
                          refine e_getI (pc := 212) dX11_post_212 fRX11_275 rfl k60 ?_
                          refine e_iload_n (pc := 215) (i := 1) dX11_post_215 rfl rfl ?_
                          have k61 := hv.1
                          replace hv := hv.2
                          have hi62 := hv.1
                          replace hv := hv.2
                          obtain ⟨w63, hw63⟩ : ∃ w63 : Wd, w63 = yI w59 (wR w59 11 31 a0) (wI w59 11 38 a0).toNatClampNeg a1 := ⟨_, rfl⟩
                          replace hv := hv w63 hw63
                          refine e_iast (pc := 216) dX11_post_216 k61 hi62 ?_
                          rw [← hw63]
                          refine e_aload_n (pc := 217) (i := 0) dX11_post_217 rfl rfl ?_
                          have k64 : wK w63 a0 = 12 := (by rw [hw63]; exact k60)
                          refine e_getR (pc := 218) dX11_post_218 fRX11_102 rfl k64 ?_
                          refine e_aload_n (pc := 221) (i := 0) dX11_post_221 rfl rfl ?_
                          refine e_getI (pc := 222) dX11_post_222 fRX11_275 rfl k64 ?_
                          refine e_iload_n (pc := 225) (i := 2) dX11_post_225 rfl rfl ?_
                          have k65 := hv.1
                          replace hv := hv.2
                          have hi66 := hv.1
                          replace hv := hv.2
                          obtain ⟨w67, hw67⟩ : ∃ w67 : Wd, w67 = yI w63 (wR w63 11 32 a0) (wI w63 11 38 a0).toNatClampNeg a2 := ⟨_, rfl⟩
                          replace hv := hv w67 hw67
                          refine e_iast (pc := 226) dX11_post_226 k65 hi66 ?_
                          rw [← hw67]
                          refine e_aload_n (pc := 227) (i := 0) dX11_post_227 rfl rfl ?_
                          have k68 : wK w67 a0 = 12 := (by rw [hw67]; exact k64)
                          refine e_getR (pc := 228) dX11_post_228 fRX11_105 rfl k68 ?_
                          refine e_aload_n (pc := 231) (i := 0) dX11_post_231 rfl rfl ?_
                          refine e_getI (pc := 232) dX11_post_232 fRX11_275 rfl k68 ?_
                          refine e_lload_n (pc := 235) (i := 3) dX11_post_235 rfl rfl ?_
                          have k69 := hv.1
                          replace hv := hv.2
                          have hi70 := hv.1
                          replace hv := hv.2
                          obtain ⟨w71, hw71⟩ : ∃ w71 : Wd, w71 = yJ w67 (wR w67 11 33 a0) (wI w67 11 38 a0).toNatClampNeg a3 := ⟨_, rfl⟩
                          replace hv := hv w71 hw71
                          refine e_last (pc := 236) dX11_post_236 k69 hi70 ?_
                          rw [← hw71]
                          refine e_aload_n (pc := 237) (i := 0) dX11_post_237 rfl rfl ?_
                          have k72 : wK w71 a0 = 12 := (by rw [hw71]; exact k68)
                          refine e_getR (pc := 238) dX11_post_238 fRX11_108 rfl k72 ?_
                          refine e_aload_n (pc := 241) (i := 0) dX11_post_241 rfl rfl ?_
                          refine e_getI (pc := 242) dX11_post_242 fRX11_275 rfl k72 ?_
                          refine e_aload_n (pc := 245) (i := 0) dX11_post_245 rfl rfl ?_
                          refine e_callVi (pc := 246) (ci := 11) (st := [vI (wI w71 11 38 a0), vR (wR w71 11 34 a0)]) (rc' := 0) (rs' := 0) (B' := bX11_dateNow) [] dX11_post_246 vRX11_252 kX11_dateNow (by decide) rfl k72 rfl rfl (Nat.le_of_ble_eq_true rfl) ⟨Nat.le_of_ble_eq_true rfl, Nat.le_of_ble_eq_true rfl⟩ rfl rfl hv (fun x74 w73 hv => ?_)
                          have k75 := hv.1
                          replace hv := hv.2
                          have hi76 := hv.1
                          replace hv := hv.2
                          obtain ⟨w77, hw77⟩ : ∃ w77 : Wd, w77 = yI w73 (wR w71 11 34 a0) (wI w71 11 38 a0).toNatClampNeg x74 := ⟨_, rfl⟩
                          replace hv := hv w77 hw77
                          refine e_iast (pc := 249) dX11_post_249 k75 hi76 ?_
                          rw [← hw77]
                          refine e_aload_n (pc := 250) (i := 0) dX11_post_250 rfl rfl ?_
                          have k78 := hv.1
                          replace hv := hv.2
                          refine e_getR (pc := 251) dX11_post_251 fRX11_111 rfl k78 ?_
                          refine e_aload_n (pc := 254) (i := 0) dX11_post_254 rfl rfl ?_
                          refine e_getI (pc := 255) dX11_post_255 fRX11_275 rfl k78 ?_
                          refine e_aload_n (pc := 258) (i := 0) dX11_post_258 rfl rfl ?_
                          refine e_getI (pc := 259) dX11_post_259 fRX11_166 rfl k78 ?_
                          have k79 := hv.1
                          replace hv := hv.2
                          have hi80 := hv.1
                          replace hv := hv.2
                          obtain ⟨w81, hw81⟩ : ∃ w81 : Wd, w81 = yI w77 (wR w77 11 35 a0) (wI w77 11 38 a0).toNatClampNeg (wI w77 11 39 a0) := ⟨_, rfl⟩
                          replace hv := hv w81 hw81
                          refine e_iast (pc := 262) dX11_post_262 k79 hi80 ?_
                          rw [← hw81]
                          refine e_aload_n (pc := 263) (i := 0) dX11_post_263 rfl rfl ?_
                          have k82 : wK w81 a0 = 12 := (by rw [hw81]; exact k78)
                          refine e_getR (pc := 264) dX11_post_264 fRX11_117 rfl k82 ?_
                          refine e_aload_n (pc := 267) (i := 0) dX11_post_267 rfl rfl ?_
                          refine e_getI (pc := 268) dX11_post_268 fRX11_275 rfl k82 ?_
                          refine e_iconst (pc := 271) (v := (-1)) dX11_post_271 (by decide) ?_
                          have k83 := hv.1
                          replace hv := hv.2
                          have hi84 := hv.1
                          replace hv := hv.2
                          obtain ⟨w85, hw85⟩ : ∃ w85 : Wd, w85 = yI w81 (wR w81 11 37 a0) (wI w81 11 38 a0).toNatClampNeg (-1) := ⟨_, rfl⟩
                          replace hv := hv w85 hw85
                          refine e_iast (pc := 272) dX11_post_272 k83 hi84 ?_
                          rw [← hw85]
                          refine e_aload_n (pc := 273) (i := 0) dX11_post_273 rfl rfl ?_
                          refine e_iconst (pc := 274) (v := 0) dX11_post_274 (by decide) ?_
                          have k86 : wK w85 a0 = 12 := (by rw [hw85]; exact k82)
                          obtain ⟨w87, hw87⟩ : ∃ w87 : Wd, w87 = sI w85 11 41 a0 0 := ⟨_, rfl⟩
                          replace hv := hv w87 hw87
                          refine e_putI (pc := 275) dX11_post_275 fRX11_163 (Or.inl rfl) rfl k86 ?_
                          rw [← hw87]
                          refine e_aload_n (pc := 278) (i := 0) dX11_post_278 rfl rfl ?_
                          have k88 : wK w87 a0 = 12 := (by rw [hw87]; exact k86)
                          refine e_getI (pc := 279) dX11_post_279 fRX11_275 rfl k88 ?_
                          exact e_ireturn (pc := 282) dX11_post_282 rfl ⟨_, rfl, hv⟩
                        · replace hv := hv.2 h58
                          refine e_aload_n (pc := 190) (i := 0) dX11_post_190 rfl rfl ?_
                          refine e_bipush (pc := 191) (v := 10) dX11_post_191 (by decide) ?_
                          refine e_callVi (pc := 193) (ci := 11) (st := []) (rc' := 0) (rs' := 0) (B' := bX11_refuse) [vI 10] dX11_post_193 vRX11_231 kX11_refuse (by decide) rfl k52 rfl rfl (Nat.le_of_ble_eq_true rfl) ⟨Nat.le_of_ble_eq_true rfl, Nat.le_of_ble_eq_true rfl⟩ rfl rfl hv (fun x90 w89 hv => ?_)
                          exact e_ireturn (pc := 196) dX11_post_196 rfl ⟨_, rfl, hv⟩
                      · replace hv := hv.2 h57
                        refine e_aload_n (pc := 148) (i := 0) dX11_post_148 rfl rfl ?_
                        refine e_aload_n (pc := 149) (i := 0) dX11_post_149 rfl rfl ?_
                        refine e_getR (pc := 150) dX11_post_150 fRX11_23 rfl k52 ?_
                        refine e_iload_n (pc := 153) (i := 1) dX11_post_153 rfl rfl ?_
                        have hi91 := hv.1
                        replace hv := hv.2
                        refine e_iald (pc := 154) dX11_post_154 k53 hi91 ?_
                        refine e_aload_n (pc := 155) (i := 0) dX11_post_155 rfl rfl ?_
                        refine e_getR (pc := 156) dX11_post_156 fRX11_23 rfl k52 ?_
                        refine e_iload_n (pc := 159) (i := 2) dX11_post_159 rfl rfl ?_
                        have hi92 := hv.1
                        replace hv := hv.2
                        refine e_iald (pc := 160) dX11_post_160 k53 hi92 ?_
                        refine e_callVv (pc := 161) (ci := 11) (st := []) (rc' := 0) (rs' := 0) (B' := bX11_draw) [vI (xI w50 (wR w50 11 5 a0) a1.toNatClampNeg), vI (xI w50 (wR w50 11 5 a0) a2.toNatClampNeg)] dX11_post_161 vRX11_287 kX11_draw (by decide) rfl k52 rfl rfl (Nat.le_of_ble_eq_true rfl) ⟨Nat.le_of_ble_eq_true rfl, Nat.le_of_ble_eq_true rfl⟩ rfl rfl hv (fun w93 hv => ?_)
                        refine e_aload_n (pc := 164) (i := 0) dX11_post_164 rfl rfl ?_
                        refine e_dup (pc := 165) dX11_post_165 rfl ?_
                        have k95 := hv.1
                        replace hv := hv.2
                        refine e_getI (pc := 166) dX11_post_166 fRX11_290 rfl k95 ?_
                        refine e_iconst (pc := 169) (v := 1) dX11_post_169 (by decide) ?_
                        refine e_iadd (pc := 170) dX11_post_170 ?_
                        obtain ⟨w96, hw96⟩ : ∃ w96 : Wd, w96 = sI w93 11 44 a0 ((wI w93 11 44 a0) + 1) := ⟨_, rfl⟩
                        replace hv := hv w96 hw96
                        refine e_putI (pc := 171) dX11_post_171 fRX11_290 (Or.inl rfl) rfl k95 ?_
                        rw [← hw96]
                        refine e_aload_n (pc := 174) (i := 0) dX11_post_174 rfl rfl ?_
                        refine e_bipush (pc := 175) (v := 9) dX11_post_175 (by decide) ?_
                        have k99 : wK w96 a0 = 12 := (by rw [hw96]; exact k95)
                        refine e_callVi (pc := 177) (ci := 11) (st := []) (rc' := 0) (rs' := 0) (B' := bX11_refuse) [vI 9] dX11_post_177 vRX11_231 kX11_refuse (by decide) rfl k99 rfl rfl (Nat.le_of_ble_eq_true rfl) ⟨Nat.le_of_ble_eq_true rfl, Nat.le_of_ble_eq_true rfl⟩ rfl rfl hv (fun x98 w97 hv => ?_)
                        exact e_ireturn (pc := 180) dX11_post_180 rfl ⟨_, rfl, hv⟩
                    · replace hv := hv.2 h47
                      refine e_aload_n (pc := 116) (i := 0) dX11_post_116 rfl rfl ?_
                      refine e_bipush (pc := 117) (v := 6) dX11_post_117 (by decide) ?_
                      refine e_callVi (pc := 119) (ci := 11) (st := []) (rc' := 0) (rs' := 0) (B' := bX11_refuse) [vI 6] dX11_post_119 vRX11_231 kX11_refuse (by decide) rfl k43 rfl rfl (Nat.le_of_ble_eq_true rfl) ⟨Nat.le_of_ble_eq_true rfl, Nat.le_of_ble_eq_true rfl⟩ rfl rfl hv (fun x101 w100 hv => ?_)
                      exact e_ireturn (pc := 122) dX11_post_122 rfl ⟨_, rfl, hv⟩
              · replace hv := hv.2 h29
                refine e_aload_n (pc := 79) (i := 0) dX11_post_79 rfl rfl ?_
                refine e_iconst (pc := 80) (v := 5) dX11_post_80 (by decide) ?_
                refine e_callVi (pc := 81) (ci := 11) (st := []) (rc' := 0) (rs' := 0) (B' := bX11_refuse) [vI 5] dX11_post_81 vRX11_231 kX11_refuse (by decide) rfl k12 rfl rfl (Nat.le_of_ble_eq_true rfl) ⟨Nat.le_of_ble_eq_true rfl, Nat.le_of_ble_eq_true rfl⟩ rfl rfl hv (fun x103 w102 hv => ?_)
                exact e_ireturn (pc := 84) dX11_post_84 rfl ⟨_, rfl, hv⟩
        · replace hv := hv.2 h19
          refine e_aload_n (pc := 44) (i := 0) dX11_post_44 rfl rfl ?_
          refine e_iconst (pc := 45) (v := 4) dX11_post_45 (by decide) ?_
          refine e_callVi (pc := 46) (ci := 11) (st := []) (rc' := 0) (rs' := 0) (B' := bX11_refuse) [vI 4] dX11_post_46 vRX11_231 kX11_refuse (by decide) rfl k12 rfl rfl (Nat.le_of_ble_eq_true rfl) ⟨Nat.le_of_ble_eq_true rfl, Nat.le_of_ble_eq_true rfl⟩ rfl rfl hv (fun x105 w104 hv => ?_)
          exact e_ireturn (pc := 49) dX11_post_49 rfl ⟨_, rfl, hv⟩
    · replace hv := hv.2 h11
      refine e_aload_n (pc := 16) (i := 0) dX11_post_16 rfl rfl ?_
      refine e_iconst (pc := 17) (v := 1) dX11_post_17 (by decide) ?_
      have k108 := hv.1
      replace hv := hv.2
      refine e_callVi (pc := 18) (ci := 11) (st := []) (rc' := 0) (rs' := 0) (B' := bX11_refuse) [vI 1] dX11_post_18 vRX11_231 kX11_refuse (by decide) rfl k108 rfl rfl (Nat.le_of_ble_eq_true rfl) ⟨Nat.le_of_ble_eq_true rfl, Nat.le_of_ble_eq_true rfl⟩ rfl rfl hv (fun x107 w106 hv => ?_)
      exact e_ireturn (pc := 21) dX11_post_21 rfl ⟨_, rfl, hv⟩
set_option maxRecDepth 100000 in
set_option maxHeartbeats 4000000 in
theorem oX11_circle (X : Cx) (A : Int32 → Wd → Prop) (a0 : Nat) (a1 : Int32) (w : Wd)
    (hv : ((a1 < 0) → A (-1) w) ∧ ((¬ a1 < 0) → wK w a0 = 12 ∧ ((a1 < (wI w 11 52 a0)) → wK w (wR w 11 51 a0) = 13 ∧ vp_in a1 (wL w (wR w 11 51 a0)) ∧ A (xI w (wR w 11 51 a0) a1.toNatClampNeg) w) ∧ ((¬ a1 < (wI w 11 52 a0)) → A (-1) w))) :
    Ct X bX11_circle mX11_circle [vR a0, vI a1] w (qI A) := by
  refine Ct.of (lv := [(0, vR a0), (1, vI a1)]) rfl (Nat.le_of_ble_eq_true rfl) rfl ?_
  refine e_iload_n (pc := 0) (i := 1) dX11_circle_0 rfl rfl ?_
  refine e_if_lt (pc := 1) (tgt := 12) dX11_circle_1 (by decide) (fun h1 => ?_) (fun h1 => ?_)
  · replace hv := hv.1 h1
    refine e_iconst (pc := 12) (v := (-1)) dX11_circle_12 (by decide) ?_
    refine e_goto (pc := 13) (tgt := 22) dX11_circle_13 (by decide) ?_
    exact e_ireturn (pc := 22) dX11_circle_22 rfl ⟨_, rfl, hv⟩
  · replace hv := hv.2 h1
    refine e_iload_n (pc := 4) (i := 1) dX11_circle_4 rfl rfl ?_
    refine e_aload_n (pc := 5) (i := 0) dX11_circle_5 rfl rfl ?_
    have k2 := hv.1
    replace hv := hv.2
    refine e_getI (pc := 6) dX11_circle_6 fRX11_281 rfl k2 ?_
    refine e_icmp_lt (pc := 9) (tgt := 16) dX11_circle_9 (by decide) (fun h3 => ?_) (fun h3 => ?_)
    · replace hv := hv.1 h3
      refine e_aload_n (pc := 16) (i := 0) dX11_circle_16 rfl rfl ?_
      refine e_getR (pc := 17) dX11_circle_17 fRX11_133 rfl k2 ?_
      refine e_iload_n (pc := 20) (i := 1) dX11_circle_20 rfl rfl ?_
      have k4 := hv.1
      replace hv := hv.2
      have hi5 := hv.1
      replace hv := hv.2
      refine e_iald (pc := 21) dX11_circle_21 k4 hi5 ?_
      exact e_ireturn (pc := 22) dX11_circle_22 rfl ⟨_, rfl, hv⟩
    · replace hv := hv.2 h3
      refine e_iconst (pc := 12) (v := (-1)) dX11_circle_12 (by decide) ?_
      refine e_goto (pc := 13) (tgt := 22) dX11_circle_13 (by decide) ?_
      exact e_ireturn (pc := 22) dX11_circle_22 rfl ⟨_, rfl, hv⟩
set_option maxRecDepth 100000 in
set_option maxHeartbeats 4000000 in
theorem oX11_undo (X : Cx) (A : Int32 → Wd → Prop) (a0 : Nat) (a1 : Int32) (w : Wd)
    (hv : ((a1 < 1) → wK w a0 = 12 ∧ Ct X bX11_no mX11_no [vR a0, vI 1] w (qI fun x3 w2 => (x3 = 0 ∨ x3 = 1) ∧ A x3 w2)) ∧ ((¬ a1 < 1) → wK w a0 = 12 ∧ ((a1 ≤ (wI w 11 38 a0)) → Ct X bX11_isUndone mX11_isUndone [vR a0, vI a1] w (qI fun x8 w7 => ((x8 = 0) → wK w7 a0 = 12 ∧ Ct X bX11_dateNow mX11_dateNow [vR a0] w7 (qI fun x12 w11 => wK w11 (wR w7 11 36 a0) = 13 ∧ vp_in a1 (wL w11 (wR w7 11 36 a0)) ∧ ∀ w15 : Wd, w15 = yI w11 (wR w7 11 36 a0) a1.toNatClampNeg x12 → wK w15 a0 = 12 ∧ wK w15 (wR w15 11 37 a0) = 13 ∧ vp_in a1 (wL w15 (wR w15 11 37 a0)) ∧ ∀ w19 : Wd, w19 = yI w15 (wR w15 11 37 a0) a1.toNatClampNeg (wI w15 11 39 a0) → ∀ w21 : Wd, w21 = sI w19 11 41 a0 0 → A 1 w21)) ∧ ((¬ x8 = 0) → wK w7 a0 = 12 ∧ Ct X bX11_no mX11_no [vR a0, vI 8] w7 (qI fun x23 w22 => (x23 = 0 ∨ x23 = 1) ∧ A x23 w22)))) ∧ ((¬ a1 ≤ (wI w 11 38 a0)) → Ct X bX11_no mX11_no [vR a0, vI 1] w (qI fun x26 w25 => (x26 = 0 ∨ x26 = 1) ∧ A x26 w25)))) :
    Ct X bX11_undo mX11_undo [vR a0, vI a1] w (qI A) := by
  refine Ct.of (lv := [(0, vR a0), (1, vI a1)]) rfl (Nat.le_of_ble_eq_true rfl) rfl ?_
  refine e_iload_n (pc := 0) (i := 1) dX11_undo_0 rfl rfl ?_
  refine e_iconst (pc := 1) (v := 1) dX11_undo_1 (by decide) ?_
  refine e_icmp_lt (pc := 2) (tgt := 13) dX11_undo_2 (by decide) (fun h1 => ?_) (fun h1 => ?_)
  · replace hv := hv.1 h1
    refine e_aload_n (pc := 13) (i := 0) dX11_undo_13 rfl rfl ?_
    refine e_iconst (pc := 14) (v := 1) dX11_undo_14 (by decide) ?_
    have k4 := hv.1
    replace hv := hv.2
    refine e_callVi (pc := 15) (ci := 11) (st := []) (rc' := 0) (rs' := 0) (B' := bX11_no) [vI 1] dX11_undo_15 vRX11_238 kX11_no (by decide) rfl k4 rfl rfl (Nat.le_of_ble_eq_true rfl) ⟨Nat.le_of_ble_eq_true rfl, Nat.le_of_ble_eq_true rfl⟩ rfl rfl hv (fun x3 w2 hv => ?_)
    exact e_zreturn (pc := 18) dX11_undo_18 rfl hv.1 ⟨_, rfl, hv.2⟩
  · replace hv := hv.2 h1
    refine e_iload_n (pc := 5) (i := 1) dX11_undo_5 rfl rfl ?_
    refine e_aload_n (pc := 6) (i := 0) dX11_undo_6 rfl rfl ?_
    have k5 := hv.1
    replace hv := hv.2
    refine e_getI (pc := 7) dX11_undo_7 fRX11_275 rfl k5 ?_
    refine e_icmp_le (pc := 10) (tgt := 19) dX11_undo_10 (by decide) (fun h6 => ?_) (fun h6 => ?_)
    · replace hv := hv.1 h6
      refine e_aload_n (pc := 19) (i := 0) dX11_undo_19 rfl rfl ?_
      refine e_iload_n (pc := 20) (i := 1) dX11_undo_20 rfl rfl ?_
      refine e_callVi (pc := 21) (ci := 11) (st := []) (rc' := 0) (rs' := 0) (B' := bX11_isUndone) [vI a1] dX11_undo_21 vRX11_278 kX11_isUndone (by decide) rfl k5 rfl rfl (Nat.le_of_ble_eq_true rfl) ⟨Nat.le_of_ble_eq_true rfl, Nat.le_of_ble_eq_true rfl⟩ rfl rfl hv (fun x8 w7 hv => ?_)
      refine e_if_eq (pc := 24) (tgt := 34) dX11_undo_24 (by decide) (fun h9 => ?_) (fun h9 => ?_)
      · replace hv := hv.1 h9
        refine e_aload_n (pc := 34) (i := 0) dX11_undo_34 rfl rfl ?_
        have k10 := hv.1
        replace hv := hv.2
        refine e_getR (pc := 35) dX11_undo_35 fRX11_114 rfl k10 ?_
        refine e_iload_n (pc := 38) (i := 1) dX11_undo_38 rfl rfl ?_
        refine e_aload_n (pc := 39) (i := 0) dX11_undo_39 rfl rfl ?_
        refine e_callVi (pc := 40) (ci := 11) (st := [vI a1, vR (wR w7 11 36 a0)]) (rc' := 0) (rs' := 0) (B' := bX11_dateNow) [] dX11_undo_40 vRX11_252 kX11_dateNow (by decide) rfl k10 rfl rfl (Nat.le_of_ble_eq_true rfl) ⟨Nat.le_of_ble_eq_true rfl, Nat.le_of_ble_eq_true rfl⟩ rfl rfl hv (fun x12 w11 hv => ?_)
        have k13 := hv.1
        replace hv := hv.2
        have hi14 := hv.1
        replace hv := hv.2
        obtain ⟨w15, hw15⟩ : ∃ w15 : Wd, w15 = yI w11 (wR w7 11 36 a0) a1.toNatClampNeg x12 := ⟨_, rfl⟩
        replace hv := hv w15 hw15
        refine e_iast (pc := 43) dX11_undo_43 k13 hi14 ?_
        rw [← hw15]
        refine e_aload_n (pc := 44) (i := 0) dX11_undo_44 rfl rfl ?_
        have k16 := hv.1
        replace hv := hv.2
        refine e_getR (pc := 45) dX11_undo_45 fRX11_117 rfl k16 ?_
        refine e_iload_n (pc := 48) (i := 1) dX11_undo_48 rfl rfl ?_
        refine e_aload_n (pc := 49) (i := 0) dX11_undo_49 rfl rfl ?_
        refine e_getI (pc := 50) dX11_undo_50 fRX11_166 rfl k16 ?_
        have k17 := hv.1
        replace hv := hv.2
        have hi18 := hv.1
        replace hv := hv.2
        obtain ⟨w19, hw19⟩ : ∃ w19 : Wd, w19 = yI w15 (wR w15 11 37 a0) a1.toNatClampNeg (wI w15 11 39 a0) := ⟨_, rfl⟩
        replace hv := hv w19 hw19
        refine e_iast (pc := 53) dX11_undo_53 k17 hi18 ?_
        rw [← hw19]
        refine e_aload_n (pc := 54) (i := 0) dX11_undo_54 rfl rfl ?_
        refine e_iconst (pc := 55) (v := 0) dX11_undo_55 (by decide) ?_
        have k20 : wK w19 a0 = 12 := (by rw [hw19]; exact k16)
        obtain ⟨w21, hw21⟩ : ∃ w21 : Wd, w21 = sI w19 11 41 a0 0 := ⟨_, rfl⟩
        replace hv := hv w21 hw21
        refine e_putI (pc := 56) dX11_undo_56 fRX11_163 (Or.inl rfl) rfl k20 ?_
        rw [← hw21]
        refine e_iconst (pc := 59) (v := 1) dX11_undo_59 (by decide) ?_
        exact e_zreturn (pc := 60) dX11_undo_60 rfl (Or.inr rfl) ⟨_, rfl, hv⟩
      · replace hv := hv.2 h9
        refine e_aload_n (pc := 27) (i := 0) dX11_undo_27 rfl rfl ?_
        refine e_bipush (pc := 28) (v := 8) dX11_undo_28 (by decide) ?_
        have k24 := hv.1
        replace hv := hv.2
        refine e_callVi (pc := 30) (ci := 11) (st := []) (rc' := 0) (rs' := 0) (B' := bX11_no) [vI 8] dX11_undo_30 vRX11_238 kX11_no (by decide) rfl k24 rfl rfl (Nat.le_of_ble_eq_true rfl) ⟨Nat.le_of_ble_eq_true rfl, Nat.le_of_ble_eq_true rfl⟩ rfl rfl hv (fun x23 w22 hv => ?_)
        exact e_zreturn (pc := 33) dX11_undo_33 rfl hv.1 ⟨_, rfl, hv.2⟩
    · replace hv := hv.2 h6
      refine e_aload_n (pc := 13) (i := 0) dX11_undo_13 rfl rfl ?_
      refine e_iconst (pc := 14) (v := 1) dX11_undo_14 (by decide) ?_
      refine e_callVi (pc := 15) (ci := 11) (st := []) (rc' := 0) (rs' := 0) (B' := bX11_no) [vI 1] dX11_undo_15 vRX11_238 kX11_no (by decide) rfl k5 rfl rfl (Nat.le_of_ble_eq_true rfl) ⟨Nat.le_of_ble_eq_true rfl, Nat.le_of_ble_eq_true rfl⟩ rfl rfl hv (fun x26 w25 hv => ?_)
      exact e_zreturn (pc := 18) dX11_undo_18 rfl hv.1 ⟨_, rfl, hv.2⟩
set_option maxRecDepth 100000 in
set_option maxHeartbeats 4000000 in
theorem oX11_release (X : Cx) (A : Int32 → Wd → Prop) (a0 : Nat) (a1 : Int32) (a2 : Int32) (w : Wd)
    (hv : wK w a0 = 12 ∧ Ct X bX11_isEntry mX11_isEntry [vR a0, vI a1] w (qI fun x2 w1 => ((¬ x2 = 0) → wK w1 a0 = 12 ∧ wK w1 (wR w1 11 4 a0) = 13 ∧ vp_in a1 (wL w1 (wR w1 11 4 a0)) ∧ Ct X bX11_wrong mX11_wrong [vR a0, vI (xI w1 (wR w1 11 4 a0) a1.toNatClampNeg), vI a2] w1 (qI fun x9 w8 => ((x9 ≤ 0) → wK w8 a0 = 12 ∧ Ct X bX11_now mX11_now [vR a0] w8 (qV fun w11 => wK w11 a0 = 12 ∧ Ct X bX11_lies mX11_lies [vR a0, vI a1, vI a2] w11 (qI fun x15 w14 => ((¬ x15 = 0) → wK w14 a0 = 12 ∧ Ct X bX11_dateNow mX11_dateNow [vR a0] w14 (qI fun x20 w19 => wK w19 (wR w14 11 28 a0) = 13 ∧ vp_in ((60 * a1) + a2) (wL w19 (wR w14 11 28 a0)) ∧ ∀ w23 : Wd, w23 = yI w19 (wR w14 11 28 a0) ((60 * a1) + a2).toNatClampNeg x20 → wK w23 a0 = 12 ∧ wK w23 (wR w23 11 29 a0) = 13 ∧ vp_in ((60 * a1) + a2) (wL w23 (wR w23 11 29 a0)) ∧ ∀ w27 : Wd, w27 = yI w23 (wR w23 11 29 a0) ((60 * a1) + a2).toNatClampNeg (wI w23 11 39 a0) → ∀ w29 : Wd, w29 = sI w27 11 41 a0 0 → A 1 w29)) ∧ ((x15 = 0) → wK w14 a0 = 12 ∧ Ct X bX11_no mX11_no [vR a0, vI 6] w14 (qI fun x31 w30 => (x31 = 0 ∨ x31 = 1) ∧ A x31 w30))))) ∧ ((¬ x9 ≤ 0) → wK w8 a0 = 12 ∧ Ct X bX11_no mX11_no [vR a0, vI x9] w8 (qI fun x34 w33 => (x34 = 0 ∨ x34 = 1) ∧ A x34 w33)))) ∧ ((x2 = 0) → wK w1 a0 = 12 ∧ Ct X bX11_no mX11_no [vR a0, vI 1] w1 (qI fun x37 w36 => (x37 = 0 ∨ x37 = 1) ∧ A x37 w36)))) :
    Ct X bX11_release mX11_release [vR a0, vI a1, vI a2] w (qI A) := by
  refine Ct.of (lv := [(0, vR a0), (1, vI a1), (2, vI a2)]) rfl (Nat.le_of_ble_eq_true rfl) rfl ?_
  refine e_aload_n (pc := 0) (i := 0) dX11_release_0 rfl rfl ?_
  refine e_iload_n (pc := 1) (i := 1) dX11_release_1 rfl rfl ?_
  have k3 := hv.1
  replace hv := hv.2
  refine e_callVi (pc := 2) (ci := 11) (st := []) (rc' := 0) (rs' := 0) (B' := bX11_isEntry) [vI a1] dX11_release_2 vRX11_224 kX11_isEntry (by decide) rfl k3 rfl rfl (Nat.le_of_ble_eq_true rfl) ⟨Nat.le_of_ble_eq_true rfl, Nat.le_of_ble_eq_true rfl⟩ rfl rfl hv (fun x2 w1 hv => ?_)
  refine e_if_ne (pc := 5) (tgt := 14) dX11_release_5 (by decide) (fun h4 => ?_) (fun h4 => ?_)
  · replace hv := hv.1 h4
    refine e_aload_n (pc := 14) (i := 0) dX11_release_14 rfl rfl ?_
    refine e_aload_n (pc := 15) (i := 0) dX11_release_15 rfl rfl ?_
    have k5 := hv.1
    replace hv := hv.2
    refine e_getR (pc := 16) dX11_release_16 fRX11_20 rfl k5 ?_
    refine e_iload_n (pc := 19) (i := 1) dX11_release_19 rfl rfl ?_
    have k6 := hv.1
    replace hv := hv.2
    have hi7 := hv.1
    replace hv := hv.2
    refine e_iald (pc := 20) dX11_release_20 k6 hi7 ?_
    refine e_iload_n (pc := 21) (i := 2) dX11_release_21 rfl rfl ?_
    refine e_callVi (pc := 22) (ci := 11) (st := []) (rc' := 0) (rs' := 0) (B' := bX11_wrong) [vI (xI w1 (wR w1 11 4 a0) a1.toNatClampNeg), vI a2] dX11_release_22 vRX11_235 kX11_wrong (by decide) rfl k5 rfl rfl (Nat.le_of_ble_eq_true rfl) ⟨Nat.le_of_ble_eq_true rfl, Nat.le_of_ble_eq_true rfl⟩ rfl rfl hv (fun x9 w8 hv => ?_)
    refine e_istore_n (pc := 25) (i := 3) (lv' := [(0, vR a0), (1, vI a1), (2, vI a2), (3, vI x9)]) dX11_release_25 rfl (by decide) rfl ?_
    refine e_iload_n (pc := 26) (i := 3) dX11_release_26 rfl rfl ?_
    refine e_if_le (pc := 27) (tgt := 36) dX11_release_27 (by decide) (fun h10 => ?_) (fun h10 => ?_)
    · replace hv := hv.1 h10
      refine e_aload_n (pc := 36) (i := 0) dX11_release_36 rfl rfl ?_
      have k13 := hv.1
      replace hv := hv.2
      refine e_callVv (pc := 37) (ci := 11) (st := []) (rc' := 0) (rs' := 0) (B' := bX11_now) [] dX11_release_37 vRX11_257 kX11_now (by decide) rfl k13 rfl rfl (Nat.le_of_ble_eq_true rfl) ⟨Nat.le_of_ble_eq_true rfl, Nat.le_of_ble_eq_true rfl⟩ rfl rfl hv (fun w11 hv => ?_)
      refine e_aload_n (pc := 40) (i := 0) dX11_release_40 rfl rfl ?_
      refine e_iload_n (pc := 41) (i := 1) dX11_release_41 rfl rfl ?_
      refine e_iload_n (pc := 42) (i := 2) dX11_release_42 rfl rfl ?_
      have k16 := hv.1
      replace hv := hv.2
      refine e_callVi (pc := 43) (ci := 11) (st := []) (rc' := 0) (rs' := 0) (B' := bX11_lies) [vI a1, vI a2] dX11_release_43 vRX11_293 kX11_lies (by decide) rfl k16 rfl rfl (Nat.le_of_ble_eq_true rfl) ⟨Nat.le_of_ble_eq_true rfl, Nat.le_of_ble_eq_true rfl⟩ rfl rfl hv (fun x15 w14 hv => ?_)
      refine e_if_ne (pc := 46) (tgt := 56) dX11_release_46 (by decide) (fun h17 => ?_) (fun h17 => ?_)
      · replace hv := hv.1 h17
        refine e_aload_n (pc := 56) (i := 0) dX11_release_56 rfl rfl ?_
        have k18 := hv.1
        replace hv := hv.2
        refine e_getR (pc := 57) dX11_release_57 fRX11_93 rfl k18 ?_
        refine e_bipush (pc := 60) (v := 60) dX11_release_60 (by decide) ?_
        refine e_iload_n (pc := 62) (i := 1) dX11_release_62 rfl rfl ?_
        refine e_imul (pc := 63) dX11_release_63 ?_
        refine e_iload_n (pc := 64) (i := 2) dX11_release_64 rfl rfl ?_
        refine e_iadd (pc := 65) dX11_release_65 ?_
        refine e_aload_n (pc := 66) (i := 0) dX11_release_66 rfl rfl ?_
        refine e_callVi (pc := 67) (ci := 11) (st := [vI ((60 * a1) + a2), vR (wR w14 11 28 a0)]) (rc' := 0) (rs' := 0) (B' := bX11_dateNow) [] dX11_release_67 vRX11_252 kX11_dateNow (by decide) rfl k18 rfl rfl (Nat.le_of_ble_eq_true rfl) ⟨Nat.le_of_ble_eq_true rfl, Nat.le_of_ble_eq_true rfl⟩ rfl rfl hv (fun x20 w19 hv => ?_)
        have k21 := hv.1
        replace hv := hv.2
        have hi22 := hv.1
        replace hv := hv.2
        obtain ⟨w23, hw23⟩ : ∃ w23 : Wd, w23 = yI w19 (wR w14 11 28 a0) ((60 * a1) + a2).toNatClampNeg x20 := ⟨_, rfl⟩
        replace hv := hv w23 hw23
        refine e_iast (pc := 70) dX11_release_70 k21 hi22 ?_
        rw [← hw23]
        refine e_aload_n (pc := 71) (i := 0) dX11_release_71 rfl rfl ?_
        have k24 := hv.1
        replace hv := hv.2
        refine e_getR (pc := 72) dX11_release_72 fRX11_96 rfl k24 ?_
        refine e_bipush (pc := 75) (v := 60) dX11_release_75 (by decide) ?_
        refine e_iload_n (pc := 77) (i := 1) dX11_release_77 rfl rfl ?_
        refine e_imul (pc := 78) dX11_release_78 ?_
        refine e_iload_n (pc := 79) (i := 2) dX11_release_79 rfl rfl ?_
        refine e_iadd (pc := 80) dX11_release_80 ?_
        refine e_aload_n (pc := 81) (i := 0) dX11_release_81 rfl rfl ?_
        refine e_getI (pc := 82) dX11_release_82 fRX11_166 rfl k24 ?_
        have k25 := hv.1
        replace hv := hv.2
        have hi26 := hv.1
        replace hv := hv.2
        obtain ⟨w27, hw27⟩ : ∃ w27 : Wd, w27 = yI w23 (wR w23 11 29 a0) ((60 * a1) + a2).toNatClampNeg (wI w23 11 39 a0) := ⟨_, rfl⟩
        replace hv := hv w27 hw27
        refine e_iast (pc := 85) dX11_release_85 k25 hi26 ?_
        rw [← hw27]
        refine e_aload_n (pc := 86) (i := 0) dX11_release_86 rfl rfl ?_
        refine e_iconst (pc := 87) (v := 0) dX11_release_87 (by decide) ?_
        have k28 : wK w27 a0 = 12 := (by rw [hw27]; exact k24)
        obtain ⟨w29, hw29⟩ : ∃ w29 : Wd, w29 = sI w27 11 41 a0 0 := ⟨_, rfl⟩
        replace hv := hv w29 hw29
        refine e_putI (pc := 88) dX11_release_88 fRX11_163 (Or.inl rfl) rfl k28 ?_
        rw [← hw29]
        refine e_iconst (pc := 91) (v := 1) dX11_release_91 (by decide) ?_
        exact e_zreturn (pc := 92) dX11_release_92 rfl (Or.inr rfl) ⟨_, rfl, hv⟩
      · replace hv := hv.2 h17
        refine e_aload_n (pc := 49) (i := 0) dX11_release_49 rfl rfl ?_
        refine e_bipush (pc := 50) (v := 6) dX11_release_50 (by decide) ?_
        have k32 := hv.1
        replace hv := hv.2
        refine e_callVi (pc := 52) (ci := 11) (st := []) (rc' := 0) (rs' := 0) (B' := bX11_no) [vI 6] dX11_release_52 vRX11_238 kX11_no (by decide) rfl k32 rfl rfl (Nat.le_of_ble_eq_true rfl) ⟨Nat.le_of_ble_eq_true rfl, Nat.le_of_ble_eq_true rfl⟩ rfl rfl hv (fun x31 w30 hv => ?_)
        exact e_zreturn (pc := 55) dX11_release_55 rfl hv.1 ⟨_, rfl, hv.2⟩
    · replace hv := hv.2 h10
      refine e_aload_n (pc := 30) (i := 0) dX11_release_30 rfl rfl ?_
      refine e_iload_n (pc := 31) (i := 3) dX11_release_31 rfl rfl ?_
      have k35 := hv.1
      replace hv := hv.2
      refine e_callVi (pc := 32) (ci := 11) (st := []) (rc' := 0) (rs' := 0) (B' := bX11_no) [vI x9] dX11_release_32 vRX11_238 kX11_no (by decide) rfl k35 rfl rfl (Nat.le_of_ble_eq_true rfl) ⟨Nat.le_of_ble_eq_true rfl, Nat.le_of_ble_eq_true rfl⟩ rfl rfl hv (fun x34 w33 hv => ?_)
      exact e_zreturn (pc := 35) dX11_release_35 rfl hv.1 ⟨_, rfl, hv.2⟩
  · replace hv := hv.2 h4
    refine e_aload_n (pc := 8) (i := 0) dX11_release_8 rfl rfl ?_
    refine e_iconst (pc := 9) (v := 1) dX11_release_9 (by decide) ?_
    have k38 := hv.1
    replace hv := hv.2
    refine e_callVi (pc := 10) (ci := 11) (st := []) (rc' := 0) (rs' := 0) (B' := bX11_no) [vI 1] dX11_release_10 vRX11_238 kX11_no (by decide) rfl k38 rfl rfl (Nat.le_of_ble_eq_true rfl) ⟨Nat.le_of_ble_eq_true rfl, Nat.le_of_ble_eq_true rfl⟩ rfl rfl hv (fun x37 w36 hv => ?_)
    exact e_zreturn (pc := 13) dX11_release_13 rfl hv.1 ⟨_, rfl, hv.2⟩
set_option maxRecDepth 100000 in
set_option maxHeartbeats 4000000 in
theorem oX11_strike (X : Cx) (A : Int32 → Wd → Prop) (a0 : Nat) (a1 : Int32) (w : Wd)
    (hv : wK w a0 = 12 ∧ Ct X bX11_isEntry mX11_isEntry [vR a0, vI a1] w (qI fun x2 w1 => ((¬ x2 = 0) → wK w1 a0 = 12 ∧ wK w1 (wR w1 11 6 a0) = 13 ∧ vp_in a1 (wL w1 (wR w1 11 6 a0)) ∧ (((xI w1 (wR w1 11 6 a0) a1.toNatClampNeg) = 0) → Ct X bX11_livesNow mX11_livesNow [vR a0, vI a1] w1 (qI fun x10 w9 => ((¬ x10 = 0) → wK w9 a0 = 12 ∧ Ct X bX11_dateNow mX11_dateNow [vR a0] w9 (qI fun x13 w12 => wK w12 a0 = 12 ∧ wK w12 (wR w12 11 13 a0) = 13 ∧ vp_in a1 (wL w12 (wR w12 11 13 a0)) ∧ (((xI w12 (wR w12 11 13 a0) a1.toNatClampNeg) ≤ x13) → Ct X bX11_dateNow mX11_dateNow [vR a0] w12 (qI fun x20 w19 => wK w19 (wR w12 11 15 a0) = 13 ∧ vp_in a1 (wL w19 (wR w12 11 15 a0)) ∧ ∀ w23 : Wd, w23 = yI w19 (wR w12 11 15 a0) a1.toNatClampNeg x20 → wK w23 a0 = 12 ∧ wK w23 (wR w23 11 16 a0) = 13 ∧ vp_in a1 (wL w23 (wR w23 11 16 a0)) ∧ ∀ w27 : Wd, w27 = yI w23 (wR w23 11 16 a0) a1.toNatClampNeg (wI w23 11 39 a0) → ∀ w29 : Wd, w29 = sI w27 11 41 a0 0 → A 1 w29)) ∧ ((¬ (xI w12 (wR w12 11 13 a0) a1.toNatClampNeg) ≤ x13) → Ct X bX11_no mX11_no [vR a0, vI 8] w12 (qI fun x31 w30 => (x31 = 0 ∨ x31 = 1) ∧ A x31 w30)))) ∧ ((x10 = 0) → wK w9 a0 = 12 ∧ Ct X bX11_no mX11_no [vR a0, vI 6] w9 (qI fun x33 w32 => (x33 = 0 ∨ x33 = 1) ∧ A x33 w32)))) ∧ ((¬ (xI w1 (wR w1 11 6 a0) a1.toNatClampNeg) = 0) → Ct X bX11_no mX11_no [vR a0, vI 4] w1 (qI fun x36 w35 => (x36 = 0 ∨ x36 = 1) ∧ A x36 w35))) ∧ ((x2 = 0) → wK w1 a0 = 12 ∧ Ct X bX11_no mX11_no [vR a0, vI 1] w1 (qI fun x38 w37 => (x38 = 0 ∨ x38 = 1) ∧ A x38 w37)))) :
    Ct X bX11_strike mX11_strike [vR a0, vI a1] w (qI A) := by
  refine Ct.of (lv := [(0, vR a0), (1, vI a1)]) rfl (Nat.le_of_ble_eq_true rfl) rfl ?_
  refine e_aload_n (pc := 0) (i := 0) dX11_strike_0 rfl rfl ?_
  refine e_iload_n (pc := 1) (i := 1) dX11_strike_1 rfl rfl ?_
  have k3 := hv.1
  replace hv := hv.2
  refine e_callVi (pc := 2) (ci := 11) (st := []) (rc' := 0) (rs' := 0) (B' := bX11_isEntry) [vI a1] dX11_strike_2 vRX11_224 kX11_isEntry (by decide) rfl k3 rfl rfl (Nat.le_of_ble_eq_true rfl) ⟨Nat.le_of_ble_eq_true rfl, Nat.le_of_ble_eq_true rfl⟩ rfl rfl hv (fun x2 w1 hv => ?_)
  refine e_if_ne (pc := 5) (tgt := 14) dX11_strike_5 (by decide) (fun h4 => ?_) (fun h4 => ?_)
  · replace hv := hv.1 h4
    refine e_aload_n (pc := 14) (i := 0) dX11_strike_14 rfl rfl ?_
    have k5 := hv.1
    replace hv := hv.2
    refine e_getR (pc := 15) dX11_strike_15 fRX11_26 rfl k5 ?_
    refine e_iload_n (pc := 18) (i := 1) dX11_strike_18 rfl rfl ?_
    have k6 := hv.1
    replace hv := hv.2
    have hi7 := hv.1
    replace hv := hv.2
    refine e_iald (pc := 19) dX11_strike_19 k6 hi7 ?_
    refine e_if_eq (pc := 20) (tgt := 29) dX11_strike_20 (by decide) (fun h8 => ?_) (fun h8 => ?_)
    · replace hv := hv.1 h8
      refine e_aload_n (pc := 29) (i := 0) dX11_strike_29 rfl rfl ?_
      refine e_iload_n (pc := 30) (i := 1) dX11_strike_30 rfl rfl ?_
      refine e_callVi (pc := 31) (ci := 11) (st := []) (rc' := 0) (rs' := 0) (B' := bX11_livesNow) [vI a1] dX11_strike_31 vRX11_260 kX11_livesNow (by decide) rfl k5 rfl rfl (Nat.le_of_ble_eq_true rfl) ⟨Nat.le_of_ble_eq_true rfl, Nat.le_of_ble_eq_true rfl⟩ rfl rfl hv (fun x10 w9 hv => ?_)
      refine e_if_ne (pc := 34) (tgt := 44) dX11_strike_34 (by decide) (fun h11 => ?_) (fun h11 => ?_)
      · replace hv := hv.1 h11
        refine e_aload_n (pc := 44) (i := 0) dX11_strike_44 rfl rfl ?_
        have k14 := hv.1
        replace hv := hv.2
        refine e_callVi (pc := 45) (ci := 11) (st := []) (rc' := 0) (rs' := 0) (B' := bX11_dateNow) [] dX11_strike_45 vRX11_252 kX11_dateNow (by decide) rfl k14 rfl rfl (Nat.le_of_ble_eq_true rfl) ⟨Nat.le_of_ble_eq_true rfl, Nat.le_of_ble_eq_true rfl⟩ rfl rfl hv (fun x13 w12 hv => ?_)
        refine e_aload_n (pc := 48) (i := 0) dX11_strike_48 rfl rfl ?_
        have k15 := hv.1
        replace hv := hv.2
        refine e_getR (pc := 49) dX11_strike_49 fRX11_48 rfl k15 ?_
        refine e_iload_n (pc := 52) (i := 1) dX11_strike_52 rfl rfl ?_
        have k16 := hv.1
        replace hv := hv.2
        have hi17 := hv.1
        replace hv := hv.2
        refine e_iald (pc := 53) dX11_strike_53 k16 hi17 ?_
        refine e_icmp_ge (pc := 54) (tgt := 64) dX11_strike_54 (by decide) (fun h18 => ?_) (fun h18 => ?_)
        · replace hv := hv.1 h18
          refine e_aload_n (pc := 64) (i := 0) dX11_strike_64 rfl rfl ?_
          refine e_getR (pc := 65) dX11_strike_65 fRX11_54 rfl k15 ?_
          refine e_iload_n (pc := 68) (i := 1) dX11_strike_68 rfl rfl ?_
          refine e_aload_n (pc := 69) (i := 0) dX11_strike_69 rfl rfl ?_
          refine e_callVi (pc := 70) (ci := 11) (st := [vI a1, vR (wR w12 11 15 a0)]) (rc' := 0) (rs' := 0) (B' := bX11_dateNow) [] dX11_strike_70 vRX11_252 kX11_dateNow (by decide) rfl k15 rfl rfl (Nat.le_of_ble_eq_true rfl) ⟨Nat.le_of_ble_eq_true rfl, Nat.le_of_ble_eq_true rfl⟩ rfl rfl hv (fun x20 w19 hv => ?_)
          have k21 := hv.1
          replace hv := hv.2
          have hi22 := hv.1
          replace hv := hv.2
          obtain ⟨w23, hw23⟩ : ∃ w23 : Wd, w23 = yI w19 (wR w12 11 15 a0) a1.toNatClampNeg x20 := ⟨_, rfl⟩
          replace hv := hv w23 hw23
          refine e_iast (pc := 73) dX11_strike_73 k21 hi22 ?_
          rw [← hw23]
          refine e_aload_n (pc := 74) (i := 0) dX11_strike_74 rfl rfl ?_
          have k24 := hv.1
          replace hv := hv.2
          refine e_getR (pc := 75) dX11_strike_75 fRX11_57 rfl k24 ?_
          refine e_iload_n (pc := 78) (i := 1) dX11_strike_78 rfl rfl ?_
          refine e_aload_n (pc := 79) (i := 0) dX11_strike_79 rfl rfl ?_
          refine e_getI (pc := 80) dX11_strike_80 fRX11_166 rfl k24 ?_
          have k25 := hv.1
          replace hv := hv.2
          have hi26 := hv.1
          replace hv := hv.2
          obtain ⟨w27, hw27⟩ : ∃ w27 : Wd, w27 = yI w23 (wR w23 11 16 a0) a1.toNatClampNeg (wI w23 11 39 a0) := ⟨_, rfl⟩
          replace hv := hv w27 hw27
          refine e_iast (pc := 83) dX11_strike_83 k25 hi26 ?_
          rw [← hw27]
          refine e_aload_n (pc := 84) (i := 0) dX11_strike_84 rfl rfl ?_
          refine e_iconst (pc := 85) (v := 0) dX11_strike_85 (by decide) ?_
          have k28 : wK w27 a0 = 12 := (by rw [hw27]; exact k24)
          obtain ⟨w29, hw29⟩ : ∃ w29 : Wd, w29 = sI w27 11 41 a0 0 := ⟨_, rfl⟩
          replace hv := hv w29 hw29
          refine e_putI (pc := 86) dX11_strike_86 fRX11_163 (Or.inl rfl) rfl k28 ?_
          rw [← hw29]
          refine e_iconst (pc := 89) (v := 1) dX11_strike_89 (by decide) ?_
          exact e_zreturn (pc := 90) dX11_strike_90 rfl (Or.inr rfl) ⟨_, rfl, hv⟩
        · replace hv := hv.2 h18
          refine e_aload_n (pc := 57) (i := 0) dX11_strike_57 rfl rfl ?_
          refine e_bipush (pc := 58) (v := 8) dX11_strike_58 (by decide) ?_
          refine e_callVi (pc := 60) (ci := 11) (st := []) (rc' := 0) (rs' := 0) (B' := bX11_no) [vI 8] dX11_strike_60 vRX11_238 kX11_no (by decide) rfl k15 rfl rfl (Nat.le_of_ble_eq_true rfl) ⟨Nat.le_of_ble_eq_true rfl, Nat.le_of_ble_eq_true rfl⟩ rfl rfl hv (fun x31 w30 hv => ?_)
          exact e_zreturn (pc := 63) dX11_strike_63 rfl hv.1 ⟨_, rfl, hv.2⟩
      · replace hv := hv.2 h11
        refine e_aload_n (pc := 37) (i := 0) dX11_strike_37 rfl rfl ?_
        refine e_bipush (pc := 38) (v := 6) dX11_strike_38 (by decide) ?_
        have k34 := hv.1
        replace hv := hv.2
        refine e_callVi (pc := 40) (ci := 11) (st := []) (rc' := 0) (rs' := 0) (B' := bX11_no) [vI 6] dX11_strike_40 vRX11_238 kX11_no (by decide) rfl k34 rfl rfl (Nat.le_of_ble_eq_true rfl) ⟨Nat.le_of_ble_eq_true rfl, Nat.le_of_ble_eq_true rfl⟩ rfl rfl hv (fun x33 w32 hv => ?_)
        exact e_zreturn (pc := 43) dX11_strike_43 rfl hv.1 ⟨_, rfl, hv.2⟩
    · replace hv := hv.2 h8
      refine e_aload_n (pc := 23) (i := 0) dX11_strike_23 rfl rfl ?_
      refine e_iconst (pc := 24) (v := 4) dX11_strike_24 (by decide) ?_
      refine e_callVi (pc := 25) (ci := 11) (st := []) (rc' := 0) (rs' := 0) (B' := bX11_no) [vI 4] dX11_strike_25 vRX11_238 kX11_no (by decide) rfl k5 rfl rfl (Nat.le_of_ble_eq_true rfl) ⟨Nat.le_of_ble_eq_true rfl, Nat.le_of_ble_eq_true rfl⟩ rfl rfl hv (fun x36 w35 hv => ?_)
      exact e_zreturn (pc := 28) dX11_strike_28 rfl hv.1 ⟨_, rfl, hv.2⟩
  · replace hv := hv.2 h4
    refine e_aload_n (pc := 8) (i := 0) dX11_strike_8 rfl rfl ?_
    refine e_iconst (pc := 9) (v := 1) dX11_strike_9 (by decide) ?_
    have k39 := hv.1
    replace hv := hv.2
    refine e_callVi (pc := 10) (ci := 11) (st := []) (rc' := 0) (rs' := 0) (B' := bX11_no) [vI 1] dX11_strike_10 vRX11_238 kX11_no (by decide) rfl k39 rfl rfl (Nat.le_of_ble_eq_true rfl) ⟨Nat.le_of_ble_eq_true rfl, Nat.le_of_ble_eq_true rfl⟩ rfl rfl hv (fun x38 w37 hv => ?_)
    exact e_zreturn (pc := 13) dX11_strike_13 rfl hv.1 ⟨_, rfl, hv.2⟩
set_option maxRecDepth 100000 in
set_option maxHeartbeats 4000000 in
theorem oX11_keep (X : Cx) (A : Int32 → Wd → Prop) (a0 : Nat) (a1 : Int32) (a2 : Int32) (w : Wd)
    (hv : wK w a0 = 12 ∧ Ct X bX11_isEntry mX11_isEntry [vR a0, vI a1] w (qI fun x2 w1 => ((x2 = 0) → wK w1 a0 = 12 ∧ Ct X bX11_no mX11_no [vR a0, vI 1] w1 (qI fun x6 w5 => (x6 = 0 ∨ x6 = 1) ∧ A x6 w5)) ∧ ((¬ x2 = 0) → wK w1 a0 = 12 ∧ Ct X bX11_isEntry mX11_isEntry [vR a0, vI a2] w1 (qI fun x9 w8 => ((¬ x9 = 0) → wK w8 a0 = 12 ∧ wK w8 (wR w8 11 3 a0) = 13 ∧ vp_in a1 (wL w8 (wR w8 11 3 a0)) ∧ ((¬ (xI w8 (wR w8 11 3 a0) a1.toNatClampNeg) = 6) → Ct X bX11_no mX11_no [vR a0, vI 4] w8 (qI fun x17 w16 => (x17 = 0 ∨ x17 = 1) ∧ A x17 w16)) ∧ (((xI w8 (wR w8 11 3 a0) a1.toNatClampNeg) = 6) → vp_in a2 (wL w8 (wR w8 11 3 a0)) ∧ (((xI w8 (wR w8 11 3 a0) a2.toNatClampNeg) = 6) → Ct X bX11_no mX11_no [vR a0, vI 4] w8 (qI fun x21 w20 => (x21 = 0 ∨ x21 = 1) ∧ A x21 w20)) ∧ ((¬ (xI w8 (wR w8 11 3 a0) a2.toNatClampNeg) = 6) → wK w8 (wR w8 11 6 a0) = 13 ∧ vp_in a2 (wL w8 (wR w8 11 6 a0)) ∧ (((xI w8 (wR w8 11 6 a0) a2.toNatClampNeg) = 0) → Ct X bX11_livesNow mX11_livesNow [vR a0, vI a1] w8 (qI fun x26 w25 => ((x26 = 0) → wK w25 a0 = 12 ∧ Ct X bX11_no mX11_no [vR a0, vI 6] w25 (qI fun x29 w28 => (x29 = 0 ∨ x29 = 1) ∧ A x29 w28)) ∧ ((¬ x26 = 0) → wK w25 a0 = 12 ∧ Ct X bX11_lives mX11_lives [vR a0, vI a2] w25 (qI fun x32 w31 => ((x32 = 0) → wK w31 a0 = 12 ∧ Ct X bX11_no mX11_no [vR a0, vI 6] w31 (qI fun x36 w35 => (x36 = 0 ∨ x36 = 1) ∧ A x36 w35)) ∧ ((¬ x32 = 0) → wK w31 a0 = 12 ∧ wK w31 (wR w31 11 4 a0) = 13 ∧ vp_in a1 (wL w31 (wR w31 11 4 a0)) ∧ vp_in a2 (wL w31 (wR w31 11 4 a0)) ∧ (((xI w31 (wR w31 11 4 a0) a1.toNatClampNeg) = (xI w31 (wR w31 11 4 a0) a2.toNatClampNeg)) → wK w31 (wR w31 11 13 a0) = 13 ∧ vp_in a2 (wL w31 (wR w31 11 13 a0)) ∧ vp_in a1 (wL w31 (wR w31 11 13 a0)) ∧ ((((xI w31 (wR w31 11 13 a0) a2.toNatClampNeg) - (xI w31 (wR w31 11 13 a0) a1.toNatClampNeg)) < 0) → Ct X bX11_no mX11_no [vR a0, vI 8] w31 (qI fun x48 w47 => (x48 = 0 ∨ x48 = 1) ∧ A x48 w47)) ∧ ((¬ ((xI w31 (wR w31 11 13 a0) a2.toNatClampNeg) - (xI w31 (wR w31 11 13 a0) a1.toNatClampNeg)) < 0) → wK w31 (wR w31 11 11 a0) = 13 ∧ vp_in a1 (wL w31 (wR w31 11 11 a0)) ∧ (((xI w31 (wR w31 11 11 a0) a1.toNatClampNeg) < ((xI w31 (wR w31 11 13 a0) a2.toNatClampNeg) - (xI w31 (wR w31 11 13 a0) a1.toNatClampNeg))) → Ct X bX11_no mX11_no [vR a0, vI 8] w31 (qI fun x53 w52 => (x53 = 0 ∨ x53 = 1) ∧ A x53 w52)) ∧ ((¬ (xI w31 (wR w31 11 11 a0) a1.toNatClampNeg) < ((xI w31 (wR w31 11 13 a0) a2.toNatClampNeg) - (xI w31 (wR w31 11 13 a0) a1.toNatClampNeg))) → wK w31 (wR w31 11 24 a0) = 13 ∧ vp_in a1 (wL w31 (wR w31 11 24 a0)) ∧ ((¬ (xI w31 (wR w31 11 24 a0) a1.toNatClampNeg) = 0) → Ct X bX11_no mX11_no [vR a0, vI 8] w31 (qI fun x58 w57 => (x58 = 0 ∨ x58 = 1) ∧ A x58 w57)) ∧ (((xI w31 (wR w31 11 24 a0) a1.toNatClampNeg) = 0) → wK w31 (wR w31 11 25 a0) = 13 ∧ vp_in a2 (wL w31 (wR w31 11 25 a0)) ∧ (((xI w31 (wR w31 11 25 a0) a2.toNatClampNeg) = 0) → vp_in a1 (wL w31 (wR w31 11 24 a0)) ∧ ∀ w63 : Wd, w63 = yI w31 (wR w31 11 24 a0) a1.toNatClampNeg a2 → wK w63 (wR w63 11 25 a0) = 13 ∧ vp_in a2 (wL w63 (wR w63 11 25 a0)) ∧ ∀ w67 : Wd, w67 = yI w63 (wR w63 11 25 a0) a2.toNatClampNeg a1 → Ct X bX11_dateNow mX11_dateNow [vR a0] w67 (qI fun x70 w69 => wK w69 (wR w67 11 26 a0) = 13 ∧ vp_in a2 (wL w69 (wR w67 11 26 a0)) ∧ ∀ w73 : Wd, w73 = yI w69 (wR w67 11 26 a0) a2.toNatClampNeg x70 → wK w73 a0 = 12 ∧ wK w73 (wR w73 11 27 a0) = 13 ∧ vp_in a2 (wL w73 (wR w73 11 27 a0)) ∧ ∀ w77 : Wd, w77 = yI w73 (wR w73 11 27 a0) a2.toNatClampNeg (wI w73 11 39 a0) → ∀ w79 : Wd, w79 = sI w77 11 41 a0 0 → A 1 w79)) ∧ ((¬ (xI w31 (wR w31 11 25 a0) a2.toNatClampNeg) = 0) → Ct X bX11_no mX11_no [vR a0, vI 8] w31 (qI fun x81 w80 => (x81 = 0 ∨ x81 = 1) ∧ A x81 w80)))))) ∧ ((¬ (xI w31 (wR w31 11 4 a0) a1.toNatClampNeg) = (xI w31 (wR w31 11 4 a0) a2.toNatClampNeg)) → Ct X bX11_no mX11_no [vR a0, vI 6] w31 (qI fun x83 w82 => (x83 = 0 ∨ x83 = 1) ∧ A x83 w82))))))) ∧ ((¬ (xI w8 (wR w8 11 6 a0) a2.toNatClampNeg) = 0) → Ct X bX11_no mX11_no [vR a0, vI 4] w8 (qI fun x85 w84 => (x85 = 0 ∨ x85 = 1) ∧ A x85 w84))))) ∧ ((x9 = 0) → wK w8 a0 = 12 ∧ Ct X bX11_no mX11_no [vR a0, vI 1] w8 (qI fun x87 w86 => (x87 = 0 ∨ x87 = 1) ∧ A x87 w86)))))) :
    Ct X bX11_keep mX11_keep [vR a0, vI a1, vI a2] w (qI A) := by
  refine Ct.of (lv := [(0, vR a0), (1, vI a1), (2, vI a2)]) rfl (Nat.le_of_ble_eq_true rfl) rfl ?_
  refine e_aload_n (pc := 0) (i := 0) dX11_keep_0 rfl rfl ?_
  refine e_iload_n (pc := 1) (i := 1) dX11_keep_1 rfl rfl ?_
  have k3 := hv.1
  replace hv := hv.2
  refine e_callVi (pc := 2) (ci := 11) (st := []) (rc' := 0) (rs' := 0) (B' := bX11_isEntry) [vI a1] dX11_keep_2 vRX11_224 kX11_isEntry (by decide) rfl k3 rfl rfl (Nat.le_of_ble_eq_true rfl) ⟨Nat.le_of_ble_eq_true rfl, Nat.le_of_ble_eq_true rfl⟩ rfl rfl hv (fun x2 w1 hv => ?_)
  refine e_if_eq (pc := 5) (tgt := 16) dX11_keep_5 (by decide) (fun h4 => ?_) (fun h4 => ?_)
  · replace hv := hv.1 h4
    refine e_aload_n (pc := 16) (i := 0) dX11_keep_16 rfl rfl ?_
    refine e_iconst (pc := 17) (v := 1) dX11_keep_17 (by decide) ?_
    have k7 := hv.1
    replace hv := hv.2
    refine e_callVi (pc := 18) (ci := 11) (st := []) (rc' := 0) (rs' := 0) (B' := bX11_no) [vI 1] dX11_keep_18 vRX11_238 kX11_no (by decide) rfl k7 rfl rfl (Nat.le_of_ble_eq_true rfl) ⟨Nat.le_of_ble_eq_true rfl, Nat.le_of_ble_eq_true rfl⟩ rfl rfl hv (fun x6 w5 hv => ?_)
    exact e_zreturn (pc := 21) dX11_keep_21 rfl hv.1 ⟨_, rfl, hv.2⟩
  · replace hv := hv.2 h4
    refine e_aload_n (pc := 8) (i := 0) dX11_keep_8 rfl rfl ?_
    refine e_iload_n (pc := 9) (i := 2) dX11_keep_9 rfl rfl ?_
    have k10 := hv.1
    replace hv := hv.2
    refine e_callVi (pc := 10) (ci := 11) (st := []) (rc' := 0) (rs' := 0) (B' := bX11_isEntry) [vI a2] dX11_keep_10 vRX11_224 kX11_isEntry (by decide) rfl k10 rfl rfl (Nat.le_of_ble_eq_true rfl) ⟨Nat.le_of_ble_eq_true rfl, Nat.le_of_ble_eq_true rfl⟩ rfl rfl hv (fun x9 w8 hv => ?_)
    refine e_if_ne (pc := 13) (tgt := 22) dX11_keep_13 (by decide) (fun h11 => ?_) (fun h11 => ?_)
    · replace hv := hv.1 h11
      refine e_aload_n (pc := 22) (i := 0) dX11_keep_22 rfl rfl ?_
      have k12 := hv.1
      replace hv := hv.2
      refine e_getR (pc := 23) dX11_keep_23 fRX11_17 rfl k12 ?_
      refine e_iload_n (pc := 26) (i := 1) dX11_keep_26 rfl rfl ?_
      have k13 := hv.1
      replace hv := hv.2
      have hi14 := hv.1
      replace hv := hv.2
      refine e_iald (pc := 27) dX11_keep_27 k13 hi14 ?_
      refine e_bipush (pc := 28) (v := 6) dX11_keep_28 (by decide) ?_
      refine e_icmp_ne (pc := 30) (tgt := 53) dX11_keep_30 (by decide) (fun h15 => ?_) (fun h15 => ?_)
      · replace hv := hv.1 h15
        refine e_aload_n (pc := 53) (i := 0) dX11_keep_53 rfl rfl ?_
        refine e_iconst (pc := 54) (v := 4) dX11_keep_54 (by decide) ?_
        refine e_callVi (pc := 55) (ci := 11) (st := []) (rc' := 0) (rs' := 0) (B' := bX11_no) [vI 4] dX11_keep_55 vRX11_238 kX11_no (by decide) rfl k12 rfl rfl (Nat.le_of_ble_eq_true rfl) ⟨Nat.le_of_ble_eq_true rfl, Nat.le_of_ble_eq_true rfl⟩ rfl rfl hv (fun x17 w16 hv => ?_)
        exact e_zreturn (pc := 58) dX11_keep_58 rfl hv.1 ⟨_, rfl, hv.2⟩
      · replace hv := hv.2 h15
        refine e_aload_n (pc := 33) (i := 0) dX11_keep_33 rfl rfl ?_
        refine e_getR (pc := 34) dX11_keep_34 fRX11_17 rfl k12 ?_
        refine e_iload_n (pc := 37) (i := 2) dX11_keep_37 rfl rfl ?_
        have hi18 := hv.1
        replace hv := hv.2
        refine e_iald (pc := 38) dX11_keep_38 k13 hi18 ?_
        refine e_bipush (pc := 39) (v := 6) dX11_keep_39 (by decide) ?_
        refine e_icmp_eq (pc := 41) (tgt := 53) dX11_keep_41 (by decide) (fun h19 => ?_) (fun h19 => ?_)
        · replace hv := hv.1 h19
          refine e_aload_n (pc := 53) (i := 0) dX11_keep_53 rfl rfl ?_
          refine e_iconst (pc := 54) (v := 4) dX11_keep_54 (by decide) ?_
          refine e_callVi (pc := 55) (ci := 11) (st := []) (rc' := 0) (rs' := 0) (B' := bX11_no) [vI 4] dX11_keep_55 vRX11_238 kX11_no (by decide) rfl k12 rfl rfl (Nat.le_of_ble_eq_true rfl) ⟨Nat.le_of_ble_eq_true rfl, Nat.le_of_ble_eq_true rfl⟩ rfl rfl hv (fun x21 w20 hv => ?_)
          exact e_zreturn (pc := 58) dX11_keep_58 rfl hv.1 ⟨_, rfl, hv.2⟩
        · replace hv := hv.2 h19
          refine e_aload_n (pc := 44) (i := 0) dX11_keep_44 rfl rfl ?_
          refine e_getR (pc := 45) dX11_keep_45 fRX11_26 rfl k12 ?_
          refine e_iload_n (pc := 48) (i := 2) dX11_keep_48 rfl rfl ?_
          have k22 := hv.1
          replace hv := hv.2
          have hi23 := hv.1
          replace hv := hv.2
          refine e_iald (pc := 49) dX11_keep_49 k22 hi23 ?_
          refine e_if_eq (pc := 50) (tgt := 59) dX11_keep_50 (by decide) (fun h24 => ?_) (fun h24 => ?_)
          · replace hv := hv.1 h24
            refine e_aload_n (pc := 59) (i := 0) dX11_keep_59 rfl rfl ?_
            refine e_iload_n (pc := 60) (i := 1) dX11_keep_60 rfl rfl ?_
            refine e_callVi (pc := 61) (ci := 11) (st := []) (rc' := 0) (rs' := 0) (B' := bX11_livesNow) [vI a1] dX11_keep_61 vRX11_260 kX11_livesNow (by decide) rfl k12 rfl rfl (Nat.le_of_ble_eq_true rfl) ⟨Nat.le_of_ble_eq_true rfl, Nat.le_of_ble_eq_true rfl⟩ rfl rfl hv (fun x26 w25 hv => ?_)
            refine e_if_eq (pc := 64) (tgt := 90) dX11_keep_64 (by decide) (fun h27 => ?_) (fun h27 => ?_)
            · replace hv := hv.1 h27
              refine e_aload_n (pc := 90) (i := 0) dX11_keep_90 rfl rfl ?_
              refine e_bipush (pc := 91) (v := 6) dX11_keep_91 (by decide) ?_
              have k30 := hv.1
              replace hv := hv.2
              refine e_callVi (pc := 93) (ci := 11) (st := []) (rc' := 0) (rs' := 0) (B' := bX11_no) [vI 6] dX11_keep_93 vRX11_238 kX11_no (by decide) rfl k30 rfl rfl (Nat.le_of_ble_eq_true rfl) ⟨Nat.le_of_ble_eq_true rfl, Nat.le_of_ble_eq_true rfl⟩ rfl rfl hv (fun x29 w28 hv => ?_)
              exact e_zreturn (pc := 96) dX11_keep_96 rfl hv.1 ⟨_, rfl, hv.2⟩
            · replace hv := hv.2 h27
              refine e_aload_n (pc := 67) (i := 0) dX11_keep_67 rfl rfl ?_
              refine e_iload_n (pc := 68) (i := 2) dX11_keep_68 rfl rfl ?_
              have k33 := hv.1
              replace hv := hv.2
              refine e_callVi (pc := 69) (ci := 11) (st := []) (rc' := 0) (rs' := 0) (B' := bX11_lives) [vI a2] dX11_keep_69 vRX11_195 kX11_lives (by decide) rfl k33 rfl rfl (Nat.le_of_ble_eq_true rfl) ⟨Nat.le_of_ble_eq_true rfl, Nat.le_of_ble_eq_true rfl⟩ rfl rfl hv (fun x32 w31 hv => ?_)
              refine e_if_eq (pc := 72) (tgt := 90) dX11_keep_72 (by decide) (fun h34 => ?_) (fun h34 => ?_)
              · replace hv := hv.1 h34
                refine e_aload_n (pc := 90) (i := 0) dX11_keep_90 rfl rfl ?_
                refine e_bipush (pc := 91) (v := 6) dX11_keep_91 (by decide) ?_
                have k37 := hv.1
                replace hv := hv.2
                refine e_callVi (pc := 93) (ci := 11) (st := []) (rc' := 0) (rs' := 0) (B' := bX11_no) [vI 6] dX11_keep_93 vRX11_238 kX11_no (by decide) rfl k37 rfl rfl (Nat.le_of_ble_eq_true rfl) ⟨Nat.le_of_ble_eq_true rfl, Nat.le_of_ble_eq_true rfl⟩ rfl rfl hv (fun x36 w35 hv => ?_)
                exact e_zreturn (pc := 96) dX11_keep_96 rfl hv.1 ⟨_, rfl, hv.2⟩
              · replace hv := hv.2 h34
                refine e_aload_n (pc := 75) (i := 0) dX11_keep_75 rfl rfl ?_
                have k38 := hv.1
                replace hv := hv.2
                refine e_getR (pc := 76) dX11_keep_76 fRX11_20 rfl k38 ?_
                refine e_iload_n (pc := 79) (i := 1) dX11_keep_79 rfl rfl ?_
                have k39 := hv.1
                replace hv := hv.2
                have hi40 := hv.1
                replace hv := hv.2
                refine e_iald (pc := 80) dX11_keep_80 k39 hi40 ?_
                refine e_aload_n (pc := 81) (i := 0) dX11_keep_81 rfl rfl ?_
                refine e_getR (pc := 82) dX11_keep_82 fRX11_20 rfl k38 ?_
                refine e_iload_n (pc := 85) (i := 2) dX11_keep_85 rfl rfl ?_
                have hi41 := hv.1
                replace hv := hv.2
                refine e_iald (pc := 86) dX11_keep_86 k39 hi41 ?_
                refine e_icmp_eq (pc := 87) (tgt := 97) dX11_keep_87 (by decide) (fun h42 => ?_) (fun h42 => ?_)
                · replace hv := hv.1 h42
                  refine e_aload_n (pc := 97) (i := 0) dX11_keep_97 rfl rfl ?_
                  refine e_getR (pc := 98) dX11_keep_98 fRX11_48 rfl k38 ?_
                  refine e_iload_n (pc := 101) (i := 2) dX11_keep_101 rfl rfl ?_
                  have k43 := hv.1
                  replace hv := hv.2
                  have hi44 := hv.1
                  replace hv := hv.2
                  refine e_iald (pc := 102) dX11_keep_102 k43 hi44 ?_
                  refine e_aload_n (pc := 103) (i := 0) dX11_keep_103 rfl rfl ?_
                  refine e_getR (pc := 104) dX11_keep_104 fRX11_48 rfl k38 ?_
                  refine e_iload_n (pc := 107) (i := 1) dX11_keep_107 rfl rfl ?_
                  have hi45 := hv.1
                  replace hv := hv.2
                  refine e_iald (pc := 108) dX11_keep_108 k43 hi45 ?_
                  refine e_isub (pc := 109) dX11_keep_109 ?_
                  refine e_istore_n (pc := 110) (i := 3) (lv' := [(0, vR a0), (1, vI a1), (2, vI a2), (3, vI ((xI w31 (wR w31 11 13 a0) a2.toNatClampNeg) - (xI w31 (wR w31 11 13 a0) a1.toNatClampNeg)))]) dX11_keep_110 rfl (by decide) rfl ?_
                  refine e_iload_n (pc := 111) (i := 3) dX11_keep_111 rfl rfl ?_
                  refine e_if_lt (pc := 112) (tgt := 143) dX11_keep_112 (by decide) (fun h46 => ?_) (fun h46 => ?_)
                  · replace hv := hv.1 h46
                    refine e_aload_n (pc := 143) (i := 0) dX11_keep_143 rfl rfl ?_
                    refine e_bipush (pc := 144) (v := 8) dX11_keep_144 (by decide) ?_
                    refine e_callVi (pc := 146) (ci := 11) (st := []) (rc' := 0) (rs' := 0) (B' := bX11_no) [vI 8] dX11_keep_146 vRX11_238 kX11_no (by decide) rfl k38 rfl rfl (Nat.le_of_ble_eq_true rfl) ⟨Nat.le_of_ble_eq_true rfl, Nat.le_of_ble_eq_true rfl⟩ rfl rfl hv (fun x48 w47 hv => ?_)
                    exact e_zreturn (pc := 149) dX11_keep_149 rfl hv.1 ⟨_, rfl, hv.2⟩
                  · replace hv := hv.2 h46
                    refine e_iload_n (pc := 115) (i := 3) dX11_keep_115 rfl rfl ?_
                    refine e_aload_n (pc := 116) (i := 0) dX11_keep_116 rfl rfl ?_
                    refine e_getR (pc := 117) dX11_keep_117 fRX11_42 rfl k38 ?_
                    refine e_iload_n (pc := 120) (i := 1) dX11_keep_120 rfl rfl ?_
                    have k49 := hv.1
                    replace hv := hv.2
                    have hi50 := hv.1
                    replace hv := hv.2
                    refine e_iald (pc := 121) dX11_keep_121 k49 hi50 ?_
                    refine e_icmp_gt (pc := 122) (tgt := 143) dX11_keep_122 (by decide) (fun h51 => ?_) (fun h51 => ?_)
                    · replace hv := hv.1 h51
                      refine e_aload_n (pc := 143) (i := 0) dX11_keep_143 rfl rfl ?_
                      refine e_bipush (pc := 144) (v := 8) dX11_keep_144 (by decide) ?_
                      refine e_callVi (pc := 146) (ci := 11) (st := []) (rc' := 0) (rs' := 0) (B' := bX11_no) [vI 8] dX11_keep_146 vRX11_238 kX11_no (by decide) rfl k38 rfl rfl (Nat.le_of_ble_eq_true rfl) ⟨Nat.le_of_ble_eq_true rfl, Nat.le_of_ble_eq_true rfl⟩ rfl rfl hv (fun x53 w52 hv => ?_)
                      exact e_zreturn (pc := 149) dX11_keep_149 rfl hv.1 ⟨_, rfl, hv.2⟩
                    · replace hv := hv.2 h51
                      refine e_aload_n (pc := 125) (i := 0) dX11_keep_125 rfl rfl ?_
                      refine e_getR (pc := 126) dX11_keep_126 fRX11_81 rfl k38 ?_
                      refine e_iload_n (pc := 129) (i := 1) dX11_keep_129 rfl rfl ?_
                      have k54 := hv.1
                      replace hv := hv.2
                      have hi55 := hv.1
                      replace hv := hv.2
                      refine e_iald (pc := 130) dX11_keep_130 k54 hi55 ?_
                      refine e_if_ne (pc := 131) (tgt := 143) dX11_keep_131 (by decide) (fun h56 => ?_) (fun h56 => ?_)
                      · replace hv := hv.1 h56
                        refine e_aload_n (pc := 143) (i := 0) dX11_keep_143 rfl rfl ?_
                        refine e_bipush (pc := 144) (v := 8) dX11_keep_144 (by decide) ?_
                        refine e_callVi (pc := 146) (ci := 11) (st := []) (rc' := 0) (rs' := 0) (B' := bX11_no) [vI 8] dX11_keep_146 vRX11_238 kX11_no (by decide) rfl k38 rfl rfl (Nat.le_of_ble_eq_true rfl) ⟨Nat.le_of_ble_eq_true rfl, Nat.le_of_ble_eq_true rfl⟩ rfl rfl hv (fun x58 w57 hv => ?_)
                        exact e_zreturn (pc := 149) dX11_keep_149 rfl hv.1 ⟨_, rfl, hv.2⟩
                      · replace hv := hv.2 h56
                        refine e_aload_n (pc := 134) (i := 0) dX11_keep_134 rfl rfl ?_
                        refine e_getR (pc := 135) dX11_keep_135 fRX11_84 rfl k38 ?_
                        refine e_iload_n (pc := 138) (i := 2) dX11_keep_138 rfl rfl ?_
                        have k59 := hv.1
                        replace hv := hv.2
                        have hi60 := hv.1
                        replace hv := hv.2
                        refine e_iald (pc := 139) dX11_keep_139 k59 hi60 ?_
                        refine e_if_eq (pc := 140) (tgt := 150) dX11_keep_140 (by decide) (fun h61 => ?_) (fun h61 => ?_)
                        · replace hv := hv.1 h61
                          refine e_aload_n (pc := 150) (i := 0) dX11_keep_150 rfl rfl ?_
                          refine e_getR (pc := 151) dX11_keep_151 fRX11_81 rfl k38 ?_
                          refine e_iload_n (pc := 154) (i := 1) dX11_keep_154 rfl rfl ?_
                          refine e_iload_n (pc := 155) (i := 2) dX11_keep_155 rfl rfl ?_
                          have hi62 := hv.1
                          replace hv := hv.2
                          obtain ⟨w63, hw63⟩ : ∃ w63 : Wd, w63 = yI w31 (wR w31 11 24 a0) a1.toNatClampNeg a2 := ⟨_, rfl⟩
                          replace hv := hv w63 hw63
                          refine e_iast (pc := 156) dX11_keep_156 k54 hi62 ?_
                          rw [← hw63]
                          refine e_aload_n (pc := 157) (i := 0) dX11_keep_157 rfl rfl ?_
                          have k64 : wK w63 a0 = 12 := (by rw [hw63]; exact k38)
                          refine e_getR (pc := 158) dX11_keep_158 fRX11_84 rfl k64 ?_
                          refine e_iload_n (pc := 161) (i := 2) dX11_keep_161 rfl rfl ?_
                          refine e_iload_n (pc := 162) (i := 1) dX11_keep_162 rfl rfl ?_
                          have k65 := hv.1
                          replace hv := hv.2
                          have hi66 := hv.1
                          replace hv := hv.2
                          obtain ⟨w67, hw67⟩ : ∃ w67 : Wd, w67 = yI w63 (wR w63 11 25 a0) a2.toNatClampNeg a1 := ⟨_, rfl⟩
                          replace hv := hv w67 hw67
                          refine e_iast (pc := 163) dX11_keep_163 k65 hi66 ?_
                          rw [← hw67]
                          refine e_aload_n (pc := 164) (i := 0) dX11_keep_164 rfl rfl ?_
                          have k68 : wK w67 a0 = 12 := (by rw [hw67]; exact k64)
                          refine e_getR (pc := 165) dX11_keep_165 fRX11_87 rfl k68 ?_
                          refine e_iload_n (pc := 168) (i := 2) dX11_keep_168 rfl rfl ?_
                          refine e_aload_n (pc := 169) (i := 0) dX11_keep_169 rfl rfl ?_
                          refine e_callVi (pc := 170) (ci := 11) (st := [vI a2, vR (wR w67 11 26 a0)]) (rc' := 0) (rs' := 0) (B' := bX11_dateNow) [] dX11_keep_170 vRX11_252 kX11_dateNow (by decide) rfl k68 rfl rfl (Nat.le_of_ble_eq_true rfl) ⟨Nat.le_of_ble_eq_true rfl, Nat.le_of_ble_eq_true rfl⟩ rfl rfl hv (fun x70 w69 hv => ?_)
                          have k71 := hv.1
                          replace hv := hv.2
                          have hi72 := hv.1
                          replace hv := hv.2
                          obtain ⟨w73, hw73⟩ : ∃ w73 : Wd, w73 = yI w69 (wR w67 11 26 a0) a2.toNatClampNeg x70 := ⟨_, rfl⟩
                          replace hv := hv w73 hw73
                          refine e_iast (pc := 173) dX11_keep_173 k71 hi72 ?_
                          rw [← hw73]
                          refine e_aload_n (pc := 174) (i := 0) dX11_keep_174 rfl rfl ?_
                          have k74 := hv.1
                          replace hv := hv.2
                          refine e_getR (pc := 175) dX11_keep_175 fRX11_90 rfl k74 ?_
                          refine e_iload_n (pc := 178) (i := 2) dX11_keep_178 rfl rfl ?_
                          refine e_aload_n (pc := 179) (i := 0) dX11_keep_179 rfl rfl ?_
                          refine e_getI (pc := 180) dX11_keep_180 fRX11_166 rfl k74 ?_
                          have k75 := hv.1
                          replace hv := hv.2
                          have hi76 := hv.1
                          replace hv := hv.2
                          obtain ⟨w77, hw77⟩ : ∃ w77 : Wd, w77 = yI w73 (wR w73 11 27 a0) a2.toNatClampNeg (wI w73 11 39 a0) := ⟨_, rfl⟩
                          replace hv := hv w77 hw77
                          refine e_iast (pc := 183) dX11_keep_183 k75 hi76 ?_
                          rw [← hw77]
                          refine e_aload_n (pc := 184) (i := 0) dX11_keep_184 rfl rfl ?_
                          refine e_iconst (pc := 185) (v := 0) dX11_keep_185 (by decide) ?_
                          have k78 : wK w77 a0 = 12 := (by rw [hw77]; exact k74)
                          obtain ⟨w79, hw79⟩ : ∃ w79 : Wd, w79 = sI w77 11 41 a0 0 := ⟨_, rfl⟩
                          replace hv := hv w79 hw79
                          refine e_putI (pc := 186) dX11_keep_186 fRX11_163 (Or.inl rfl) rfl k78 ?_
                          rw [← hw79]
                          refine e_iconst (pc := 189) (v := 1) dX11_keep_189 (by decide) ?_
                          exact e_zreturn (pc := 190) dX11_keep_190 rfl (Or.inr rfl) ⟨_, rfl, hv⟩
                        · replace hv := hv.2 h61
                          refine e_aload_n (pc := 143) (i := 0) dX11_keep_143 rfl rfl ?_
                          refine e_bipush (pc := 144) (v := 8) dX11_keep_144 (by decide) ?_
                          refine e_callVi (pc := 146) (ci := 11) (st := []) (rc' := 0) (rs' := 0) (B' := bX11_no) [vI 8] dX11_keep_146 vRX11_238 kX11_no (by decide) rfl k38 rfl rfl (Nat.le_of_ble_eq_true rfl) ⟨Nat.le_of_ble_eq_true rfl, Nat.le_of_ble_eq_true rfl⟩ rfl rfl hv (fun x81 w80 hv => ?_)
                          exact e_zreturn (pc := 149) dX11_keep_149 rfl hv.1 ⟨_, rfl, hv.2⟩
                · replace hv := hv.2 h42
                  refine e_aload_n (pc := 90) (i := 0) dX11_keep_90 rfl rfl ?_
                  refine e_bipush (pc := 91) (v := 6) dX11_keep_91 (by decide) ?_
                  refine e_callVi (pc := 93) (ci := 11) (st := []) (rc' := 0) (rs' := 0) (B' := bX11_no) [vI 6] dX11_keep_93 vRX11_238 kX11_no (by decide) rfl k38 rfl rfl (Nat.le_of_ble_eq_true rfl) ⟨Nat.le_of_ble_eq_true rfl, Nat.le_of_ble_eq_true rfl⟩ rfl rfl hv (fun x83 w82 hv => ?_)
                  exact e_zreturn (pc := 96) dX11_keep_96 rfl hv.1 ⟨_, rfl, hv.2⟩
          · replace hv := hv.2 h24
            refine e_aload_n (pc := 53) (i := 0) dX11_keep_53 rfl rfl ?_
            refine e_iconst (pc := 54) (v := 4) dX11_keep_54 (by decide) ?_
            refine e_callVi (pc := 55) (ci := 11) (st := []) (rc' := 0) (rs' := 0) (B' := bX11_no) [vI 4] dX11_keep_55 vRX11_238 kX11_no (by decide) rfl k12 rfl rfl (Nat.le_of_ble_eq_true rfl) ⟨Nat.le_of_ble_eq_true rfl, Nat.le_of_ble_eq_true rfl⟩ rfl rfl hv (fun x85 w84 hv => ?_)
            exact e_zreturn (pc := 58) dX11_keep_58 rfl hv.1 ⟨_, rfl, hv.2⟩
    · replace hv := hv.2 h11
      refine e_aload_n (pc := 16) (i := 0) dX11_keep_16 rfl rfl ?_
      refine e_iconst (pc := 17) (v := 1) dX11_keep_17 (by decide) ?_
      have k88 := hv.1
      replace hv := hv.2
      refine e_callVi (pc := 18) (ci := 11) (st := []) (rc' := 0) (rs' := 0) (B' := bX11_no) [vI 1] dX11_keep_18 vRX11_238 kX11_no (by decide) rfl k88 rfl rfl (Nat.le_of_ble_eq_true rfl) ⟨Nat.le_of_ble_eq_true rfl, Nat.le_of_ble_eq_true rfl⟩ rfl rfl hv (fun x87 w86 hv => ?_)
      exact e_zreturn (pc := 21) dX11_keep_21 rfl hv.1 ⟨_, rfl, hv.2⟩
set_option maxRecDepth 100000 in
set_option maxHeartbeats 4000000 in
theorem oX11_isFirst (X : Cx) (A : Int32 → Wd → Prop) (a0 : Nat) (a1 : Int32) (w : Wd)
    (hv : wK w a0 = 12 ∧ wK w (wR w 11 3 a0) = 13 ∧ vp_in a1 (wL w (wR w 11 3 a0)) ∧ ((¬ (xI w (wR w 11 3 a0) a1.toNatClampNeg) = 5) → A 0 w) ∧ (((xI w (wR w 11 3 a0) a1.toNatClampNeg) = 5) → wK w (wR w 11 22 a0) = 13 ∧ vp_in a1 (wL w (wR w 11 22 a0)) ∧ wK w (wR w 11 23 a0) = 13 ∧ vp_in a1 (wL w (wR w 11 23 a0)) ∧ Ct X bX11_counts mX11_counts [vR a0, vI (xI w (wR w 11 22 a0) a1.toNatClampNeg), vI (xI w (wR w 11 23 a0) a1.toNatClampNeg)] w (qI fun x10 w9 => ((x10 = 0) → A 0 w9) ∧ ((¬ x10 = 0) → wK w9 a0 = 12 ∧ wK w9 (wR w9 11 20 a0) = 13 ∧ vp_in a1 (wL w9 (wR w9 11 20 a0)) ∧ (((wI w9 11 45 a0) < (xI w9 (wR w9 11 20 a0) a1.toNatClampNeg)) → A 0 w9) ∧ ((¬ (wI w9 11 45 a0) < (xI w9 (wR w9 11 20 a0) a1.toNatClampNeg)) → A 1 w9))))) :
    Ct X bX11_isFirst mX11_isFirst [vR a0, vI a1] w (qI A) := by
  refine Ct.of (lv := [(0, vR a0), (1, vI a1)]) rfl (Nat.le_of_ble_eq_true rfl) rfl ?_
  refine e_aload_n (pc := 0) (i := 0) dX11_isFirst_0 rfl rfl ?_
  have k1 := hv.1
  replace hv := hv.2
  refine e_getR (pc := 1) dX11_isFirst_1 fRX11_17 rfl k1 ?_
  refine e_iload_n (pc := 4) (i := 1) dX11_isFirst_4 rfl rfl ?_
  have k2 := hv.1
  replace hv := hv.2
  have hi3 := hv.1
  replace hv := hv.2
  refine e_iald (pc := 5) dX11_isFirst_5 k2 hi3 ?_
  refine e_iconst (pc := 6) (v := 5) dX11_isFirst_6 (by decide) ?_
  refine e_icmp_ne (pc := 7) (tgt := 46) dX11_isFirst_7 (by decide) (fun h4 => ?_) (fun h4 => ?_)
  · replace hv := hv.1 h4
    refine e_iconst (pc := 46) (v := 0) dX11_isFirst_46 (by decide) ?_
    exact e_zreturn (pc := 47) dX11_isFirst_47 rfl (Or.inl rfl) ⟨_, rfl, hv⟩
  · replace hv := hv.2 h4
    refine e_aload_n (pc := 10) (i := 0) dX11_isFirst_10 rfl rfl ?_
    refine e_aload_n (pc := 11) (i := 0) dX11_isFirst_11 rfl rfl ?_
    refine e_getR (pc := 12) dX11_isFirst_12 fRX11_75 rfl k1 ?_
    refine e_iload_n (pc := 15) (i := 1) dX11_isFirst_15 rfl rfl ?_
    have k5 := hv.1
    replace hv := hv.2
    have hi6 := hv.1
    replace hv := hv.2
    refine e_iald (pc := 16) dX11_isFirst_16 k5 hi6 ?_
    refine e_aload_n (pc := 17) (i := 0) dX11_isFirst_17 rfl rfl ?_
    refine e_getR (pc := 18) dX11_isFirst_18 fRX11_78 rfl k1 ?_
    refine e_iload_n (pc := 21) (i := 1) dX11_isFirst_21 rfl rfl ?_
    have k7 := hv.1
    replace hv := hv.2
    have hi8 := hv.1
    replace hv := hv.2
    refine e_iald (pc := 22) dX11_isFirst_22 k7 hi8 ?_
    refine e_callVi (pc := 23) (ci := 11) (st := []) (rc' := 0) (rs' := 0) (B' := bX11_counts) [vI (xI w (wR w 11 22 a0) a1.toNatClampNeg), vI (xI w (wR w 11 23 a0) a1.toNatClampNeg)] dX11_isFirst_23 vRX11_185 kX11_counts (by decide) rfl k1 rfl rfl (Nat.le_of_ble_eq_true rfl) ⟨Nat.le_of_ble_eq_true rfl, Nat.le_of_ble_eq_true rfl⟩ rfl rfl hv (fun x10 w9 hv => ?_)
    refine e_if_eq (pc := 26) (tgt := 46) dX11_isFirst_26 (by decide) (fun h11 => ?_) (fun h11 => ?_)
    · replace hv := hv.1 h11
      refine e_iconst (pc := 46) (v := 0) dX11_isFirst_46 (by decide) ?_
      exact e_zreturn (pc := 47) dX11_isFirst_47 rfl (Or.inl rfl) ⟨_, rfl, hv⟩
    · replace hv := hv.2 h11
      refine e_aload_n (pc := 29) (i := 0) dX11_isFirst_29 rfl rfl ?_
      have k12 := hv.1
      replace hv := hv.2
      refine e_getR (pc := 30) dX11_isFirst_30 fRX11_69 rfl k12 ?_
      refine e_iload_n (pc := 33) (i := 1) dX11_isFirst_33 rfl rfl ?_
      have k13 := hv.1
      replace hv := hv.2
      have hi14 := hv.1
      replace hv := hv.2
      refine e_iald (pc := 34) dX11_isFirst_34 k13 hi14 ?_
      refine e_aload_n (pc := 35) (i := 0) dX11_isFirst_35 rfl rfl ?_
      refine e_getI (pc := 36) dX11_isFirst_36 fRX11_175 rfl k12 ?_
      refine e_icmp_gt (pc := 39) (tgt := 46) dX11_isFirst_39 (by decide) (fun h15 => ?_) (fun h15 => ?_)
      · replace hv := hv.1 h15
        refine e_iconst (pc := 46) (v := 0) dX11_isFirst_46 (by decide) ?_
        exact e_zreturn (pc := 47) dX11_isFirst_47 rfl (Or.inl rfl) ⟨_, rfl, hv⟩
      · replace hv := hv.2 h15
        refine e_iconst (pc := 42) (v := 1) dX11_isFirst_42 (by decide) ?_
        refine e_goto (pc := 43) (tgt := 47) dX11_isFirst_43 (by decide) ?_
        exact e_zreturn (pc := 47) dX11_isFirst_47 rfl (Or.inr rfl) ⟨_, rfl, hv⟩
set_option maxRecDepth 100000 in
set_option maxHeartbeats 4000000 in
theorem oX11_whose (X : Cx) (A : Int32 → Wd → Prop) (a0 : Nat) (a1 : Int32) (w : Wd)
    (hv : wK w a0 = 12 ∧ wK w (wR w 11 54 a0) = 15 ∧ vp_in a1 (wL w (wR w 11 54 a0)) ∧ (((xI w (wR w 11 54 a0) a1.toNatClampNeg) = 0) → wK w (wR w 11 53 a0) = 13 ∧ vp_in a1 (wL w (wR w 11 53 a0)) ∧ A (xI w (wR w 11 53 a0) a1.toNatClampNeg) w) ∧ ((¬ (xI w (wR w 11 54 a0) a1.toNatClampNeg) = 0) → wK w (wR w 11 53 a0) = 13 ∧ vp_in a1 (wL w (wR w 11 53 a0)) ∧ wK w (wR w 11 25 a0) = 13 ∧ vp_in (xI w (wR w 11 53 a0) a1.toNatClampNeg) (wL w (wR w 11 25 a0)) ∧ A (xI w (wR w 11 25 a0) (xI w (wR w 11 53 a0) a1.toNatClampNeg).toNatClampNeg) w)) :
    Ct X bX11_whose mX11_whose [vR a0, vI a1] w (qI A) := by
  refine Ct.of (lv := [(0, vR a0), (1, vI a1)]) rfl (Nat.le_of_ble_eq_true rfl) rfl ?_
  refine e_aload_n (pc := 0) (i := 0) dX11_whose_0 rfl rfl ?_
  have k1 := hv.1
  replace hv := hv.2
  refine e_getR (pc := 1) dX11_whose_1 fRX11_139 rfl k1 ?_
  refine e_iload_n (pc := 4) (i := 1) dX11_whose_4 rfl rfl ?_
  have k2 := hv.1
  replace hv := hv.2
  have hi3 := hv.1
  replace hv := hv.2
  refine e_zald (pc := 5) dX11_whose_5 k2 hi3 ?_
  refine e_if_eq (pc := 6) (tgt := 23) dX11_whose_6 (by decide) (fun h4 => ?_) (fun h4 => ?_)
  · replace hv := hv.1 h4
    refine e_aload_n (pc := 23) (i := 0) dX11_whose_23 rfl rfl ?_
    refine e_getR (pc := 24) dX11_whose_24 fRX11_136 rfl k1 ?_
    refine e_iload_n (pc := 27) (i := 1) dX11_whose_27 rfl rfl ?_
    have k5 := hv.1
    replace hv := hv.2
    have hi6 := hv.1
    replace hv := hv.2
    refine e_iald (pc := 28) dX11_whose_28 k5 hi6 ?_
    exact e_ireturn (pc := 29) dX11_whose_29 rfl ⟨_, rfl, hv⟩
  · replace hv := hv.2 h4
    refine e_aload_n (pc := 9) (i := 0) dX11_whose_9 rfl rfl ?_
    refine e_getR (pc := 10) dX11_whose_10 fRX11_84 rfl k1 ?_
    refine e_aload_n (pc := 13) (i := 0) dX11_whose_13 rfl rfl ?_
    refine e_getR (pc := 14) dX11_whose_14 fRX11_136 rfl k1 ?_
    refine e_iload_n (pc := 17) (i := 1) dX11_whose_17 rfl rfl ?_
    have k7 := hv.1
    replace hv := hv.2
    have hi8 := hv.1
    replace hv := hv.2
    refine e_iald (pc := 18) dX11_whose_18 k7 hi8 ?_
    have k9 := hv.1
    replace hv := hv.2
    have hi10 := hv.1
    replace hv := hv.2
    refine e_iald (pc := 19) dX11_whose_19 k9 hi10 ?_
    refine e_goto (pc := 20) (tgt := 29) dX11_whose_20 (by decide) ?_
    exact e_ireturn (pc := 29) dX11_whose_29 rfl ⟨_, rfl, hv⟩
abbrev jX11_isAhead_21 (X : Cx) (A : Int32 → Wd → Prop) (l0 : Nat) (l1 : Int32) (l3 : Int32) (l4 : Int32) (s0 : Int32) (w : Wd) : Prop := EJ X mX11_isAhead (vw X bX11_isAhead (qI A)) 0 0 21 [(0, vR l0), (1, vI l1), (3, vI l3), (4, vI l4)] [vI s0] w
abbrev jX11_isAhead_66 (X : Cx) (A : Int32 → Wd → Prop) (l0 : Nat) (l4 : Int32) (l5 : Int32) (l6 : Int32) (s0 : Int32) (w : Wd) : Prop := EJ X mX11_isAhead (vw X bX11_isAhead (qI A)) 0 0 66 [(0, vR l0), (4, vI l4), (5, vI l5), (6, vI l6)] [vI s0] w
set_option maxRecDepth 100000 in
set_option maxHeartbeats 4000000 in
theorem tX11_isAhead_66 (X : Cx) (A : Int32 → Wd → Prop) (l0 : Nat) (l4 : Int32) (l5 : Int32) (l6 : Int32) (s0 : Int32) (w : Wd)
    (hv : ((l6 = s0) → wK w l0 = 12 ∧ wK w (wR w 11 13 l0) = 13 ∧ vp_in l4 (wL w (wR w 11 13 l0)) ∧ vp_in l5 (wL w (wR w 11 13 l0)) ∧ (((xI w (wR w 11 13 l0) l4.toNatClampNeg) = (xI w (wR w 11 13 l0) l5.toNatClampNeg)) → ((l5 ≤ l4) → A 0 w) ∧ ((¬ l5 ≤ l4) → A 1 w)) ∧ ((¬ (xI w (wR w 11 13 l0) l4.toNatClampNeg) = (xI w (wR w 11 13 l0) l5.toNatClampNeg)) → vp_in l4 (wL w (wR w 11 13 l0)) ∧ vp_in l5 (wL w (wR w 11 13 l0)) ∧ (((xI w (wR w 11 13 l0) l5.toNatClampNeg) ≤ (xI w (wR w 11 13 l0) l4.toNatClampNeg)) → A 0 w) ∧ ((¬ (xI w (wR w 11 13 l0) l5.toNatClampNeg) ≤ (xI w (wR w 11 13 l0) l4.toNatClampNeg)) → A 1 w))) ∧ ((¬ l6 = s0) → (l6 = 0 ∨ l6 = 1) ∧ A l6 w)) :
    jX11_isAhead_66 X A l0 l4 l5 l6 s0 w := by
  refine e_istore (pc := 66) (i := 7) (lv' := [(0, vR l0), (4, vI l4), (5, vI l5), (6, vI l6), (7, vI s0)]) dX11_isAhead_66 (by decide) rfl ?_
  refine e_iload (pc := 68) (i := 6) dX11_isAhead_68 rfl ?_
  refine e_iload (pc := 70) (i := 7) dX11_isAhead_70 rfl ?_
  refine e_icmp_eq (pc := 72) (tgt := 78) dX11_isAhead_72 (by decide) (fun h1 => ?_) (fun h1 => ?_)
  · replace hv := hv.1 h1
    refine e_aload_n (pc := 78) (i := 0) dX11_isAhead_78 rfl rfl ?_
    have k2 := hv.1
    replace hv := hv.2
    refine e_getR (pc := 79) dX11_isAhead_79 fRX11_48 rfl k2 ?_
    refine e_iload (pc := 82) (i := 4) dX11_isAhead_82 rfl ?_
    have k3 := hv.1
    replace hv := hv.2
    have hi4 := hv.1
    replace hv := hv.2
    refine e_iald (pc := 84) dX11_isAhead_84 k3 hi4 ?_
    refine e_aload_n (pc := 85) (i := 0) dX11_isAhead_85 rfl rfl ?_
    refine e_getR (pc := 86) dX11_isAhead_86 fRX11_48 rfl k2 ?_
    refine e_iload (pc := 89) (i := 5) dX11_isAhead_89 rfl ?_
    have hi5 := hv.1
    replace hv := hv.2
    refine e_iald (pc := 91) dX11_isAhead_91 k3 hi5 ?_
    refine e_icmp_eq (pc := 92) (tgt := 120) dX11_isAhead_92 (by decide) (fun h6 => ?_) (fun h6 => ?_)
    · replace hv := hv.1 h6
      refine e_iload (pc := 120) (i := 4) dX11_isAhead_120 rfl ?_
      refine e_iload (pc := 122) (i := 5) dX11_isAhead_122 rfl ?_
      refine e_icmp_ge (pc := 124) (tgt := 131) dX11_isAhead_124 (by decide) (fun h7 => ?_) (fun h7 => ?_)
      · replace hv := hv.1 h7
        refine e_iconst (pc := 131) (v := 0) dX11_isAhead_131 (by decide) ?_
        exact e_zreturn (pc := 132) dX11_isAhead_132 rfl (Or.inl rfl) ⟨_, rfl, hv⟩
      · replace hv := hv.2 h7
        refine e_iconst (pc := 127) (v := 1) dX11_isAhead_127 (by decide) ?_
        refine e_goto (pc := 128) (tgt := 132) dX11_isAhead_128 (by decide) ?_
        exact e_zreturn (pc := 132) dX11_isAhead_132 rfl (Or.inr rfl) ⟨_, rfl, hv⟩
    · replace hv := hv.2 h6
      refine e_aload_n (pc := 95) (i := 0) dX11_isAhead_95 rfl rfl ?_
      refine e_getR (pc := 96) dX11_isAhead_96 fRX11_48 rfl k2 ?_
      refine e_iload (pc := 99) (i := 4) dX11_isAhead_99 rfl ?_
      have hi8 := hv.1
      replace hv := hv.2
      refine e_iald (pc := 101) dX11_isAhead_101 k3 hi8 ?_
      refine e_aload_n (pc := 102) (i := 0) dX11_isAhead_102 rfl rfl ?_
      refine e_getR (pc := 103) dX11_isAhead_103 fRX11_48 rfl k2 ?_
      refine e_iload (pc := 106) (i := 5) dX11_isAhead_106 rfl ?_
      have hi9 := hv.1
      replace hv := hv.2
      refine e_iald (pc := 108) dX11_isAhead_108 k3 hi9 ?_
      refine e_icmp_ge (pc := 109) (tgt := 116) dX11_isAhead_109 (by decide) (fun h10 => ?_) (fun h10 => ?_)
      · replace hv := hv.1 h10
        refine e_iconst (pc := 116) (v := 0) dX11_isAhead_116 (by decide) ?_
        refine e_goto (pc := 117) (tgt := 132) dX11_isAhead_117 (by decide) ?_
        exact e_zreturn (pc := 132) dX11_isAhead_132 rfl (Or.inl rfl) ⟨_, rfl, hv⟩
      · replace hv := hv.2 h10
        refine e_iconst (pc := 112) (v := 1) dX11_isAhead_112 (by decide) ?_
        refine e_goto (pc := 113) (tgt := 132) dX11_isAhead_113 (by decide) ?_
        exact e_zreturn (pc := 132) dX11_isAhead_132 rfl (Or.inr rfl) ⟨_, rfl, hv⟩
  · replace hv := hv.2 h1
    refine e_iload (pc := 75) (i := 6) dX11_isAhead_75 rfl ?_
    exact e_zreturn (pc := 77) dX11_isAhead_77 rfl hv.1 ⟨_, rfl, hv.2⟩
set_option maxRecDepth 100000 in
set_option maxHeartbeats 4000000 in
theorem tX11_isAhead_21 (X : Cx) (A : Int32 → Wd → Prop) (l0 : Nat) (l1 : Int32) (l3 : Int32) (l4 : Int32) (s0 : Int32) (w : Wd)
    (hv : wK w l0 = 12 ∧ wK w (wR w 11 54 l0) = 15 ∧ vp_in l1 (wL w (wR w 11 54 l0)) ∧ ((¬ (xI w (wR w 11 54 l0) l1.toNatClampNeg) = 0) → ((¬ l3 = 0) → jX11_isAhead_66 X A l0 l4 s0 0 0 w) ∧ ((l3 = 0) → Ct X bX11_isFirst mX11_isFirst [vR l0, vI s0] w (qI fun x7 w6 => ((x7 = 0) → jX11_isAhead_66 X A l0 l4 s0 0 0 w6) ∧ ((¬ x7 = 0) → jX11_isAhead_66 X A l0 l4 s0 0 1 w6)))) ∧ (((xI w (wR w 11 54 l0) l1.toNatClampNeg) = 0) → Ct X bX11_isFirst mX11_isFirst [vR l0, vI l4] w (qI fun x10 w9 => ((x10 = 0) → ((¬ l3 = 0) → jX11_isAhead_66 X A l0 l4 s0 0 0 w9) ∧ ((l3 = 0) → wK w9 l0 = 12 ∧ Ct X bX11_isFirst mX11_isFirst [vR l0, vI s0] w9 (qI fun x14 w13 => ((x14 = 0) → jX11_isAhead_66 X A l0 l4 s0 0 0 w13) ∧ ((¬ x14 = 0) → jX11_isAhead_66 X A l0 l4 s0 0 1 w13)))) ∧ ((¬ x10 = 0) → ((¬ l3 = 0) → jX11_isAhead_66 X A l0 l4 s0 1 0 w9) ∧ ((l3 = 0) → wK w9 l0 = 12 ∧ Ct X bX11_isFirst mX11_isFirst [vR l0, vI s0] w9 (qI fun x19 w18 => ((x19 = 0) → jX11_isAhead_66 X A l0 l4 s0 1 0 w18) ∧ ((¬ x19 = 0) → jX11_isAhead_66 X A l0 l4 s0 1 1 w18))))))) :
    jX11_isAhead_21 X A l0 l1 l3 l4 s0 w := by
  refine e_istore (pc := 21) (i := 5) (lv' := [(0, vR l0), (1, vI l1), (3, vI l3), (4, vI l4), (5, vI s0)]) dX11_isAhead_21 (by decide) rfl ?_
  refine e_aload_n (pc := 23) (i := 0) dX11_isAhead_23 rfl rfl ?_
  have k1 := hv.1
  replace hv := hv.2
  refine e_getR (pc := 24) dX11_isAhead_24 fRX11_139 rfl k1 ?_
  refine e_iload_n (pc := 27) (i := 1) dX11_isAhead_27 rfl rfl ?_
  have k2 := hv.1
  replace hv := hv.2
  have hi3 := hv.1
  replace hv := hv.2
  refine e_zald (pc := 28) dX11_isAhead_28 k2 hi3 ?_
  refine e_if_ne (pc := 29) (tgt := 45) dX11_isAhead_29 (by decide) (fun h4 => ?_) (fun h4 => ?_)
  · replace hv := hv.1 h4
    refine e_iconst (pc := 45) (v := 0) dX11_isAhead_45 (by decide) ?_
    refine e_istore (pc := 46) (i := 6) (lv' := [(0, vR l0), (1, vI l1), (3, vI l3), (4, vI l4), (5, vI s0), (6, vI 0)]) dX11_isAhead_46 (by decide) rfl ?_
    refine e_iload_n (pc := 48) (i := 3) dX11_isAhead_48 rfl rfl ?_
    refine e_if_ne (pc := 49) (tgt := 65) dX11_isAhead_49 (by decide) (fun h5 => ?_) (fun h5 => ?_)
    · replace hv := hv.1 h5
      refine e_iconst (pc := 65) (v := 0) dX11_isAhead_65 (by decide) ?_
      exact EJ.drop [0, 4, 5, 6] rfl hv
    · replace hv := hv.2 h5
      refine e_aload_n (pc := 52) (i := 0) dX11_isAhead_52 rfl rfl ?_
      refine e_iload (pc := 53) (i := 5) dX11_isAhead_53 rfl ?_
      refine e_callVi (pc := 55) (ci := 11) (st := []) (rc' := 0) (rs' := 0) (B' := bX11_isFirst) [vI s0] dX11_isAhead_55 vRX11_299 kX11_isFirst (by decide) rfl k1 rfl rfl (Nat.le_of_ble_eq_true rfl) ⟨Nat.le_of_ble_eq_true rfl, Nat.le_of_ble_eq_true rfl⟩ rfl rfl hv (fun x7 w6 hv => ?_)
      refine e_if_eq (pc := 58) (tgt := 65) dX11_isAhead_58 (by decide) (fun h8 => ?_) (fun h8 => ?_)
      · replace hv := hv.1 h8
        refine e_iconst (pc := 65) (v := 0) dX11_isAhead_65 (by decide) ?_
        exact EJ.drop [0, 4, 5, 6] rfl hv
      · replace hv := hv.2 h8
        refine e_iconst (pc := 61) (v := 1) dX11_isAhead_61 (by decide) ?_
        refine e_goto (pc := 62) (tgt := 66) dX11_isAhead_62 (by decide) ?_
        exact EJ.drop [0, 4, 5, 6] rfl hv
  · replace hv := hv.2 h4
    refine e_aload_n (pc := 32) (i := 0) dX11_isAhead_32 rfl rfl ?_
    refine e_iload (pc := 33) (i := 4) dX11_isAhead_33 rfl ?_
    refine e_callVi (pc := 35) (ci := 11) (st := []) (rc' := 0) (rs' := 0) (B' := bX11_isFirst) [vI l4] dX11_isAhead_35 vRX11_299 kX11_isFirst (by decide) rfl k1 rfl rfl (Nat.le_of_ble_eq_true rfl) ⟨Nat.le_of_ble_eq_true rfl, Nat.le_of_ble_eq_true rfl⟩ rfl rfl hv (fun x10 w9 hv => ?_)
    refine e_if_eq (pc := 38) (tgt := 45) dX11_isAhead_38 (by decide) (fun h11 => ?_) (fun h11 => ?_)
    · replace hv := hv.1 h11
      refine e_iconst (pc := 45) (v := 0) dX11_isAhead_45 (by decide) ?_
      refine e_istore (pc := 46) (i := 6) (lv' := [(0, vR l0), (1, vI l1), (3, vI l3), (4, vI l4), (5, vI s0), (6, vI 0)]) dX11_isAhead_46 (by decide) rfl ?_
      refine e_iload_n (pc := 48) (i := 3) dX11_isAhead_48 rfl rfl ?_
      refine e_if_ne (pc := 49) (tgt := 65) dX11_isAhead_49 (by decide) (fun h12 => ?_) (fun h12 => ?_)
      · replace hv := hv.1 h12
        refine e_iconst (pc := 65) (v := 0) dX11_isAhead_65 (by decide) ?_
        exact EJ.drop [0, 4, 5, 6] rfl hv
      · replace hv := hv.2 h12
        refine e_aload_n (pc := 52) (i := 0) dX11_isAhead_52 rfl rfl ?_
        refine e_iload (pc := 53) (i := 5) dX11_isAhead_53 rfl ?_
        have k15 := hv.1
        replace hv := hv.2
        refine e_callVi (pc := 55) (ci := 11) (st := []) (rc' := 0) (rs' := 0) (B' := bX11_isFirst) [vI s0] dX11_isAhead_55 vRX11_299 kX11_isFirst (by decide) rfl k15 rfl rfl (Nat.le_of_ble_eq_true rfl) ⟨Nat.le_of_ble_eq_true rfl, Nat.le_of_ble_eq_true rfl⟩ rfl rfl hv (fun x14 w13 hv => ?_)
        refine e_if_eq (pc := 58) (tgt := 65) dX11_isAhead_58 (by decide) (fun h16 => ?_) (fun h16 => ?_)
        · replace hv := hv.1 h16
          refine e_iconst (pc := 65) (v := 0) dX11_isAhead_65 (by decide) ?_
          exact EJ.drop [0, 4, 5, 6] rfl hv
        · replace hv := hv.2 h16
          refine e_iconst (pc := 61) (v := 1) dX11_isAhead_61 (by decide) ?_
          refine e_goto (pc := 62) (tgt := 66) dX11_isAhead_62 (by decide) ?_
          exact EJ.drop [0, 4, 5, 6] rfl hv
    · replace hv := hv.2 h11
      refine e_iconst (pc := 41) (v := 1) dX11_isAhead_41 (by decide) ?_
      refine e_goto (pc := 42) (tgt := 46) dX11_isAhead_42 (by decide) ?_
      refine e_istore (pc := 46) (i := 6) (lv' := [(0, vR l0), (1, vI l1), (3, vI l3), (4, vI l4), (5, vI s0), (6, vI 1)]) dX11_isAhead_46 (by decide) rfl ?_
      refine e_iload_n (pc := 48) (i := 3) dX11_isAhead_48 rfl rfl ?_
      refine e_if_ne (pc := 49) (tgt := 65) dX11_isAhead_49 (by decide) (fun h17 => ?_) (fun h17 => ?_)
      · replace hv := hv.1 h17
        refine e_iconst (pc := 65) (v := 0) dX11_isAhead_65 (by decide) ?_
        exact EJ.drop [0, 4, 5, 6] rfl hv
      · replace hv := hv.2 h17
        refine e_aload_n (pc := 52) (i := 0) dX11_isAhead_52 rfl rfl ?_
        refine e_iload (pc := 53) (i := 5) dX11_isAhead_53 rfl ?_
        have k20 := hv.1
        replace hv := hv.2
        refine e_callVi (pc := 55) (ci := 11) (st := []) (rc' := 0) (rs' := 0) (B' := bX11_isFirst) [vI s0] dX11_isAhead_55 vRX11_299 kX11_isFirst (by decide) rfl k20 rfl rfl (Nat.le_of_ble_eq_true rfl) ⟨Nat.le_of_ble_eq_true rfl, Nat.le_of_ble_eq_true rfl⟩ rfl rfl hv (fun x19 w18 hv => ?_)
        refine e_if_eq (pc := 58) (tgt := 65) dX11_isAhead_58 (by decide) (fun h21 => ?_) (fun h21 => ?_)
        · replace hv := hv.1 h21
          refine e_iconst (pc := 65) (v := 0) dX11_isAhead_65 (by decide) ?_
          exact EJ.drop [0, 4, 5, 6] rfl hv
        · replace hv := hv.2 h21
          refine e_iconst (pc := 61) (v := 1) dX11_isAhead_61 (by decide) ?_
          refine e_goto (pc := 62) (tgt := 66) dX11_isAhead_62 (by decide) ?_
          exact EJ.drop [0, 4, 5, 6] rfl hv
set_option maxRecDepth 100000 in
set_option maxHeartbeats 4000000 in
theorem oX11_isAhead (X : Cx) (A : Int32 → Wd → Prop) (a0 : Nat) (a1 : Int32) (a2 : Int32) (a3 : Int32) (w : Wd)
    (hv : wK w a0 = 12 ∧ Ct X bX11_whose mX11_whose [vR a0, vI a1] w (qI fun x2 w1 => ((a3 = 0) → jX11_isAhead_21 X A a0 a1 a3 x2 a2 w1) ∧ ((¬ a3 = 0) → wK w1 a0 = 12 ∧ wK w1 (wR w1 11 25 a0) = 13 ∧ vp_in a2 (wL w1 (wR w1 11 25 a0)) ∧ jX11_isAhead_21 X A a0 a1 a3 x2 (xI w1 (wR w1 11 25 a0) a2.toNatClampNeg) w1))) :
    Ct X bX11_isAhead mX11_isAhead [vR a0, vI a1, vI a2, vI a3] w (qI A) := by
  refine Ct.of (lv := [(0, vR a0), (1, vI a1), (2, vI a2), (3, vI a3)]) rfl (Nat.le_of_ble_eq_true rfl) rfl ?_
  refine e_aload_n (pc := 0) (i := 0) dX11_isAhead_0 rfl rfl ?_
  refine e_iload_n (pc := 1) (i := 1) dX11_isAhead_1 rfl rfl ?_
  have k3 := hv.1
  replace hv := hv.2
  refine e_callVi (pc := 2) (ci := 11) (st := []) (rc' := 0) (rs' := 0) (B' := bX11_whose) [vI a1] dX11_isAhead_2 vRX11_296 kX11_whose (by decide) rfl k3 rfl rfl (Nat.le_of_ble_eq_true rfl) ⟨Nat.le_of_ble_eq_true rfl, Nat.le_of_ble_eq_true rfl⟩ rfl rfl hv (fun x2 w1 hv => ?_)
  refine e_istore (pc := 5) (i := 4) (lv' := [(0, vR a0), (1, vI a1), (2, vI a2), (3, vI a3), (4, vI x2)]) dX11_isAhead_5 (by decide) rfl ?_
  refine e_iload_n (pc := 7) (i := 3) dX11_isAhead_7 rfl rfl ?_
  refine e_if_eq (pc := 8) (tgt := 20) dX11_isAhead_8 (by decide) (fun h4 => ?_) (fun h4 => ?_)
  · replace hv := hv.1 h4
    refine e_iload_n (pc := 20) (i := 2) dX11_isAhead_20 rfl rfl ?_
    exact EJ.drop [0, 1, 3, 4] rfl hv
  · replace hv := hv.2 h4
    refine e_aload_n (pc := 11) (i := 0) dX11_isAhead_11 rfl rfl ?_
    have k5 := hv.1
    replace hv := hv.2
    refine e_getR (pc := 12) dX11_isAhead_12 fRX11_84 rfl k5 ?_
    refine e_iload_n (pc := 15) (i := 2) dX11_isAhead_15 rfl rfl ?_
    have k6 := hv.1
    replace hv := hv.2
    have hi7 := hv.1
    replace hv := hv.2
    refine e_iald (pc := 16) dX11_isAhead_16 k6 hi7 ?_
    refine e_goto (pc := 17) (tgt := 21) dX11_isAhead_17 (by decide) ?_
    exact EJ.drop [0, 1, 3, 4] rfl hv
abbrev jX11_stand_5 (X : Cx) (A : Wd → Prop) (l0 : Nat) (l1 : Int32) (l2 : Int32) (l3 : Int32) (w : Wd) : Prop := EJ X mX11_stand (vw X bX11_stand (qV A)) 0 0 5 [(0, vR l0), (1, vI l1), (2, vI l2), (3, vI l3)] [] w
abbrev jX11_stand_55 (X : Cx) (A : Wd → Prop) (l0 : Nat) (l1 : Int32) (l2 : Int32) (l3 : Int32) (w : Wd) : Prop := EJ X mX11_stand (vw X bX11_stand (qV A)) 0 0 55 [(0, vR l0), (1, vI l1), (2, vI l2), (3, vI l3)] [] w
set_option maxRecDepth 100000 in
set_option maxHeartbeats 4000000 in
theorem tX11_stand_55 (X : Cx) (A : Wd → Prop) (l0 : Nat) (l1 : Int32) (l2 : Int32) (l3 : Int32) (w : Wd)
    (hv : wK w l0 = 12 ∧ wK w (wR w 11 53 l0) = 13 ∧ vp_in l3 (wL w (wR w 11 53 l0)) ∧ ∀ w4 : Wd, w4 = yI w (wR w 11 53 l0) l3.toNatClampNeg l1 → wK w4 (wR w4 11 54 l0) = 15 ∧ vp_in l3 (wL w4 (wR w4 11 54 l0)) ∧ ∀ w8 : Wd, w8 = yI w4 (wR w4 11 54 l0) l3.toNatClampNeg (vp_nar .boolean l2) → ∀ w10 : Wd, w10 = sI w8 11 57 l0 ((wI w8 11 57 l0) + 1) → A w10) :
    jX11_stand_55 X A l0 l1 l2 l3 w := by
  refine e_aload_n (pc := 55) (i := 0) dX11_stand_55 rfl rfl ?_
  have k1 := hv.1
  replace hv := hv.2
  refine e_getR (pc := 56) dX11_stand_56 fRX11_136 rfl k1 ?_
  refine e_iload_n (pc := 59) (i := 3) dX11_stand_59 rfl rfl ?_
  refine e_iload_n (pc := 60) (i := 1) dX11_stand_60 rfl rfl ?_
  have k2 := hv.1
  replace hv := hv.2
  have hi3 := hv.1
  replace hv := hv.2
  obtain ⟨w4, hw4⟩ : ∃ w4 : Wd, w4 = yI w (wR w 11 53 l0) l3.toNatClampNeg l1 := ⟨_, rfl⟩
  replace hv := hv w4 hw4
  refine e_iast (pc := 61) dX11_stand_61 k2 hi3 ?_
  rw [← hw4]
  refine e_aload_n (pc := 62) (i := 0) dX11_stand_62 rfl rfl ?_
  have k5 : wK w4 l0 = 12 := (by rw [hw4]; exact k1)
  refine e_getR (pc := 63) dX11_stand_63 fRX11_139 rfl k5 ?_
  refine e_iload_n (pc := 66) (i := 3) dX11_stand_66 rfl rfl ?_
  refine e_iload_n (pc := 67) (i := 2) dX11_stand_67 rfl rfl ?_
  have k6 := hv.1
  replace hv := hv.2
  have hi7 := hv.1
  replace hv := hv.2
  obtain ⟨w8, hw8⟩ : ∃ w8 : Wd, w8 = yI w4 (wR w4 11 54 l0) l3.toNatClampNeg (vp_nar .boolean l2) := ⟨_, rfl⟩
  replace hv := hv w8 hw8
  refine e_zast (pc := 68) dX11_stand_68 k6 hi7 ?_
  rw [← hw8]
  refine e_aload_n (pc := 69) (i := 0) dX11_stand_69 rfl rfl ?_
  refine e_dup (pc := 70) dX11_stand_70 rfl ?_
  have k9 : wK w8 l0 = 12 := (by rw [hw8]; exact k5)
  refine e_getI (pc := 71) dX11_stand_71 fRX11_302 rfl k9 ?_
  refine e_iconst (pc := 74) (v := 1) dX11_stand_74 (by decide) ?_
  refine e_iadd (pc := 75) dX11_stand_75 ?_
  obtain ⟨w10, hw10⟩ : ∃ w10 : Wd, w10 = sI w8 11 57 l0 ((wI w8 11 57 l0) + 1) := ⟨_, rfl⟩
  replace hv := hv w10 hw10
  refine e_putI (pc := 76) dX11_stand_76 fRX11_302 (Or.inl rfl) rfl k9 ?_
  rw [← hw10]
  exact e_vreturn (pc := 79) dX11_stand_79 rfl ⟨rfl, hv⟩
set_option maxRecDepth 100000 in
set_option maxHeartbeats 4000000 in
theorem tX11_stand_5 (X : Cx) (A : Wd → Prop) (l0 : Nat) (l1 : Int32) (l2 : Int32) (l3 : Int32) (w : Wd)
    (hv : ((l3 ≤ 0) → jX11_stand_55 X A l0 l1 l2 l3 w) ∧ ((¬ l3 ≤ 0) → wK w l0 = 12 ∧ Ct X bX11_isAhead mX11_isAhead [vR l0, vI (l3 - 1), vI l1, vI l2] w (qI fun x3 w2 => ((¬ x3 = 0) → jX11_stand_55 X A l0 l1 l2 l3 w2) ∧ ((x3 = 0) → wK w2 l0 = 12 ∧ wK w2 (wR w2 11 53 l0) = 13 ∧ vp_in (l3 - 1) (wL w2 (wR w2 11 53 l0)) ∧ vp_in l3 (wL w2 (wR w2 11 53 l0)) ∧ ∀ w10 : Wd, w10 = yI w2 (wR w2 11 53 l0) l3.toNatClampNeg (xI w2 (wR w2 11 53 l0) (l3 - 1).toNatClampNeg) → wK w10 (wR w10 11 54 l0) = 15 ∧ vp_in (l3 - 1) (wL w10 (wR w10 11 54 l0)) ∧ vp_in l3 (wL w10 (wR w10 11 54 l0)) ∧ ∀ w15 : Wd, w15 = yI w10 (wR w10 11 54 l0) l3.toNatClampNeg (vp_nar .boolean (xI w10 (wR w10 11 54 l0) (l3 - 1).toNatClampNeg)) → jX11_stand_5 X A l0 l1 l2 (l3 + (-1)) w15)))) :
    jX11_stand_5 X A l0 l1 l2 l3 w := by
  refine e_iload_n (pc := 5) (i := 3) dX11_stand_5 rfl rfl ?_
  refine e_if_le (pc := 6) (tgt := 55) dX11_stand_6 (by decide) (fun h1 => ?_) (fun h1 => ?_)
  · replace hv := hv.1 h1
    exact hv
  · replace hv := hv.2 h1
    refine e_aload_n (pc := 9) (i := 0) dX11_stand_9 rfl rfl ?_
    refine e_iload_n (pc := 10) (i := 3) dX11_stand_10 rfl rfl ?_
    refine e_iconst (pc := 11) (v := 1) dX11_stand_11 (by decide) ?_
    refine e_isub (pc := 12) dX11_stand_12 ?_
    refine e_iload_n (pc := 13) (i := 1) dX11_stand_13 rfl rfl ?_
    refine e_iload_n (pc := 14) (i := 2) dX11_stand_14 rfl rfl ?_
    have k4 := hv.1
    replace hv := hv.2
    refine e_callVi (pc := 15) (ci := 11) (st := []) (rc' := 0) (rs' := 0) (B' := bX11_isAhead) [vI (l3 - 1), vI l1, vI l2] dX11_stand_15 vRX11_305 kX11_isAhead (by decide) rfl k4 rfl rfl (Nat.le_of_ble_eq_true rfl) ⟨Nat.le_of_ble_eq_true rfl, Nat.le_of_ble_eq_true rfl⟩ rfl rfl hv (fun x3 w2 hv => ?_)
    refine e_if_ne (pc := 18) (tgt := 55) dX11_stand_18 (by decide) (fun h5 => ?_) (fun h5 => ?_)
    · replace hv := hv.1 h5
      exact hv
    · replace hv := hv.2 h5
      refine e_aload_n (pc := 21) (i := 0) dX11_stand_21 rfl rfl ?_
      have k6 := hv.1
      replace hv := hv.2
      refine e_getR (pc := 22) dX11_stand_22 fRX11_136 rfl k6 ?_
      refine e_iload_n (pc := 25) (i := 3) dX11_stand_25 rfl rfl ?_
      refine e_aload_n (pc := 26) (i := 0) dX11_stand_26 rfl rfl ?_
      refine e_getR (pc := 27) dX11_stand_27 fRX11_136 rfl k6 ?_
      refine e_iload_n (pc := 30) (i := 3) dX11_stand_30 rfl rfl ?_
      refine e_iconst (pc := 31) (v := 1) dX11_stand_31 (by decide) ?_
      refine e_isub (pc := 32) dX11_stand_32 ?_
      have k7 := hv.1
      replace hv := hv.2
      have hi8 := hv.1
      replace hv := hv.2
      refine e_iald (pc := 33) dX11_stand_33 k7 hi8 ?_
      have hi9 := hv.1
      replace hv := hv.2
      obtain ⟨w10, hw10⟩ : ∃ w10 : Wd, w10 = yI w2 (wR w2 11 53 l0) l3.toNatClampNeg (xI w2 (wR w2 11 53 l0) (l3 - 1).toNatClampNeg) := ⟨_, rfl⟩
      replace hv := hv w10 hw10
      refine e_iast (pc := 34) dX11_stand_34 k7 hi9 ?_
      rw [← hw10]
      refine e_aload_n (pc := 35) (i := 0) dX11_stand_35 rfl rfl ?_
      have k11 : wK w10 l0 = 12 := (by rw [hw10]; exact k6)
      refine e_getR (pc := 36) dX11_stand_36 fRX11_139 rfl k11 ?_
      refine e_iload_n (pc := 39) (i := 3) dX11_stand_39 rfl rfl ?_
      refine e_aload_n (pc := 40) (i := 0) dX11_stand_40 rfl rfl ?_
      refine e_getR (pc := 41) dX11_stand_41 fRX11_139 rfl k11 ?_
      refine e_iload_n (pc := 44) (i := 3) dX11_stand_44 rfl rfl ?_
      refine e_iconst (pc := 45) (v := 1) dX11_stand_45 (by decide) ?_
      refine e_isub (pc := 46) dX11_stand_46 ?_
      have k12 := hv.1
      replace hv := hv.2
      have hi13 := hv.1
      replace hv := hv.2
      refine e_zald (pc := 47) dX11_stand_47 k12 hi13 ?_
      have hi14 := hv.1
      replace hv := hv.2
      obtain ⟨w15, hw15⟩ : ∃ w15 : Wd, w15 = yI w10 (wR w10 11 54 l0) l3.toNatClampNeg (vp_nar .boolean (xI w10 (wR w10 11 54 l0) (l3 - 1).toNatClampNeg)) := ⟨_, rfl⟩
      replace hv := hv w15 hw15
      refine e_zast (pc := 48) dX11_stand_48 k12 hi14 ?_
      rw [← hw15]
      refine e_iinc (pc := 49) (v := l3 + (-1)) (lv' := [(0, vR l0), (1, vI l1), (2, vI l2), (3, vI (l3 + (-1)))]) dX11_stand_49 rfl rfl (by decide) rfl ?_
      refine e_goto (pc := 52) (tgt := 5) dX11_stand_52 (by decide) ?_
      exact hv
set_option maxRecDepth 100000 in
set_option maxHeartbeats 4000000 in
theorem oX11_stand (X : Cx) (A : Wd → Prop) (a0 : Nat) (a1 : Int32) (a2 : Int32) (w : Wd)
    (hv : wK w a0 = 12 ∧ jX11_stand_5 X A a0 a1 a2 (wI w 11 57 a0) w) :
    Ct X bX11_stand mX11_stand [vR a0, vI a1, vI a2] w (qV A) := by
  refine Ct.of (lv := [(0, vR a0), (1, vI a1), (2, vI a2)]) rfl (Nat.le_of_ble_eq_true rfl) rfl ?_
  refine e_aload_n (pc := 0) (i := 0) dX11_stand_0 rfl rfl ?_
  have k1 := hv.1
  replace hv := hv.2
  refine e_getI (pc := 1) dX11_stand_1 fRX11_302 rfl k1 ?_
  refine e_istore_n (pc := 4) (i := 3) (lv' := [(0, vR a0), (1, vI a1), (2, vI a2), (3, vI (wI w 11 57 a0))]) dX11_stand_4 rfl (by decide) rfl ?_
  exact hv
abbrev jX11_placesOn_7 (X : Cx) (A : Wd → Prop) (l0 : Nat) (l1 : Int32) (l2 : Int32) (l3 : Int32) (w : Wd) : Prop := EJ X mX11_placesOn (vw X bX11_placesOn (qV A)) 0 0 7 [(0, vR l0), (1, vI l1), (2, vI l2), (3, vI l3)] [] w
set_option maxRecDepth 100000 in
set_option maxHeartbeats 4000000 in
theorem tX11_placesOn_7 (X : Cx) (A : Wd → Prop) (l0 : Nat) (l1 : Int32) (l2 : Int32) (l3 : Int32) (w : Wd)
    (hv : wK w l0 = 12 ∧ (((wI w 11 30 l0) < l3) → A w) ∧ ((¬ (wI w 11 30 l0) < l3) → wK w (wR w 11 6 l0) = 13 ∧ vp_in l3 (wL w (wR w 11 6 l0)) ∧ ((¬ (xI w (wR w 11 6 l0) l3.toNatClampNeg) = 0) → jX11_placesOn_7 X A l0 l1 l2 (l3 + 1) w) ∧ (((xI w (wR w 11 6 l0) l3.toNatClampNeg) = 0) → wK w (wR w 11 4 l0) = 13 ∧ vp_in l3 (wL w (wR w 11 4 l0)) ∧ ((¬ (xI w (wR w 11 4 l0) l3.toNatClampNeg) = l1) → jX11_placesOn_7 X A l0 l1 l2 (l3 + 1) w) ∧ (((xI w (wR w 11 4 l0) l3.toNatClampNeg) = l1) → wK w (wR w 11 3 l0) = 13 ∧ vp_in l3 (wL w (wR w 11 3 l0)) ∧ (((xI w (wR w 11 3 l0) l3.toNatClampNeg) = 6) → jX11_placesOn_7 X A l0 l1 l2 (l3 + 1) w) ∧ ((¬ (xI w (wR w 11 3 l0) l3.toNatClampNeg) = 6) → Ct X bX11_lies mX11_lies [vR l0, vI l3, vI l2] w (qI fun x13 w12 => ((¬ x13 = 0) → wK w12 l0 = 12 ∧ Ct X bX11_stand mX11_stand [vR l0, vI l3, vI 0] w12 (qV fun w15 => wK w15 l0 = 12 ∧ wK w15 (wR w15 11 25 l0) = 13 ∧ vp_in l3 (wL w15 (wR w15 11 25 l0)) ∧ (((xI w15 (wR w15 11 25 l0) l3.toNatClampNeg) = 0) → jX11_placesOn_7 X A l0 l1 l2 (l3 + 1) w15) ∧ ((¬ (xI w15 (wR w15 11 25 l0) l3.toNatClampNeg) = 0) → wK w15 (wR w15 11 26 l0) = 13 ∧ vp_in l3 (wL w15 (wR w15 11 26 l0)) ∧ wK w15 (wR w15 11 27 l0) = 13 ∧ vp_in l3 (wL w15 (wR w15 11 27 l0)) ∧ Ct X bX11_counts mX11_counts [vR l0, vI (xI w15 (wR w15 11 26 l0) l3.toNatClampNeg), vI (xI w15 (wR w15 11 27 l0) l3.toNatClampNeg)] w15 (qI fun x27 w26 => ((x27 = 0) → jX11_placesOn_7 X A l0 l1 l2 (l3 + 1) w26) ∧ ((¬ x27 = 0) → wK w26 l0 = 12 ∧ Ct X bX11_lies mX11_lies [vR l0, vI (xI w15 (wR w15 11 25 l0) l3.toNatClampNeg), vI l2] w26 (qI fun x30 w29 => ((x30 = 0) → jX11_placesOn_7 X A l0 l1 l2 (l3 + 1) w29) ∧ ((¬ x30 = 0) → wK w29 l0 = 12 ∧ Ct X bX11_stand mX11_stand [vR l0, vI l3, vI 1] w29 (qV fun w33 => jX11_placesOn_7 X A l0 l1 l2 (l3 + 1) w33)))))))) ∧ ((x13 = 0) → jX11_placesOn_7 X A l0 l1 l2 (l3 + 1) w12))))))) :
    jX11_placesOn_7 X A l0 l1 l2 l3 w := by
  refine e_iload_n (pc := 7) (i := 3) dX11_placesOn_7 rfl rfl ?_
  refine e_aload_n (pc := 8) (i := 0) dX11_placesOn_8 rfl rfl ?_
  have k1 := hv.1
  replace hv := hv.2
  refine e_getI (pc := 9) dX11_placesOn_9 fRX11_169 rfl k1 ?_
  refine e_icmp_gt (pc := 12) (tgt := 117) dX11_placesOn_12 (by decide) (fun h2 => ?_) (fun h2 => ?_)
  · replace hv := hv.1 h2
    exact e_vreturn (pc := 117) dX11_placesOn_117 rfl ⟨rfl, hv⟩
  · replace hv := hv.2 h2
    refine e_aload_n (pc := 15) (i := 0) dX11_placesOn_15 rfl rfl ?_
    refine e_getR (pc := 16) dX11_placesOn_16 fRX11_26 rfl k1 ?_
    refine e_iload_n (pc := 19) (i := 3) dX11_placesOn_19 rfl rfl ?_
    have k3 := hv.1
    replace hv := hv.2
    have hi4 := hv.1
    replace hv := hv.2
    refine e_iald (pc := 20) dX11_placesOn_20 k3 hi4 ?_
    refine e_if_ne (pc := 21) (tgt := 111) dX11_placesOn_21 (by decide) (fun h5 => ?_) (fun h5 => ?_)
    · replace hv := hv.1 h5
      refine e_iinc (pc := 111) (v := l3 + 1) (lv' := [(0, vR l0), (1, vI l1), (2, vI l2), (3, vI (l3 + 1))]) dX11_placesOn_111 rfl rfl (by decide) rfl ?_
      refine e_goto (pc := 114) (tgt := 7) dX11_placesOn_114 (by decide) ?_
      exact hv
    · replace hv := hv.2 h5
      refine e_aload_n (pc := 24) (i := 0) dX11_placesOn_24 rfl rfl ?_
      refine e_getR (pc := 25) dX11_placesOn_25 fRX11_20 rfl k1 ?_
      refine e_iload_n (pc := 28) (i := 3) dX11_placesOn_28 rfl rfl ?_
      have k6 := hv.1
      replace hv := hv.2
      have hi7 := hv.1
      replace hv := hv.2
      refine e_iald (pc := 29) dX11_placesOn_29 k6 hi7 ?_
      refine e_iload_n (pc := 30) (i := 1) dX11_placesOn_30 rfl rfl ?_
      refine e_icmp_ne (pc := 31) (tgt := 111) dX11_placesOn_31 (by decide) (fun h8 => ?_) (fun h8 => ?_)
      · replace hv := hv.1 h8
        refine e_iinc (pc := 111) (v := l3 + 1) (lv' := [(0, vR l0), (1, vI l1), (2, vI l2), (3, vI (l3 + 1))]) dX11_placesOn_111 rfl rfl (by decide) rfl ?_
        refine e_goto (pc := 114) (tgt := 7) dX11_placesOn_114 (by decide) ?_
        exact hv
      · replace hv := hv.2 h8
        refine e_aload_n (pc := 34) (i := 0) dX11_placesOn_34 rfl rfl ?_
        refine e_getR (pc := 35) dX11_placesOn_35 fRX11_17 rfl k1 ?_
        refine e_iload_n (pc := 38) (i := 3) dX11_placesOn_38 rfl rfl ?_
        have k9 := hv.1
        replace hv := hv.2
        have hi10 := hv.1
        replace hv := hv.2
        refine e_iald (pc := 39) dX11_placesOn_39 k9 hi10 ?_
        refine e_bipush (pc := 40) (v := 6) dX11_placesOn_40 (by decide) ?_
        refine e_icmp_eq (pc := 42) (tgt := 111) dX11_placesOn_42 (by decide) (fun h11 => ?_) (fun h11 => ?_)
        · replace hv := hv.1 h11
          refine e_iinc (pc := 111) (v := l3 + 1) (lv' := [(0, vR l0), (1, vI l1), (2, vI l2), (3, vI (l3 + 1))]) dX11_placesOn_111 rfl rfl (by decide) rfl ?_
          refine e_goto (pc := 114) (tgt := 7) dX11_placesOn_114 (by decide) ?_
          exact hv
        · replace hv := hv.2 h11
          refine e_aload_n (pc := 45) (i := 0) dX11_placesOn_45 rfl rfl ?_
          refine e_iload_n (pc := 46) (i := 3) dX11_placesOn_46 rfl rfl ?_
          refine e_iload_n (pc := 47) (i := 2) dX11_placesOn_47 rfl rfl ?_
          refine e_callVi (pc := 48) (ci := 11) (st := []) (rc' := 0) (rs' := 0) (B' := bX11_lies) [vI l3, vI l2] dX11_placesOn_48 vRX11_293 kX11_lies (by decide) rfl k1 rfl rfl (Nat.le_of_ble_eq_true rfl) ⟨Nat.le_of_ble_eq_true rfl, Nat.le_of_ble_eq_true rfl⟩ rfl rfl hv (fun x13 w12 hv => ?_)
          refine e_if_ne (pc := 51) (tgt := 57) dX11_placesOn_51 (by decide) (fun h14 => ?_) (fun h14 => ?_)
          · replace hv := hv.1 h14
            refine e_aload_n (pc := 57) (i := 0) dX11_placesOn_57 rfl rfl ?_
            refine e_iload_n (pc := 58) (i := 3) dX11_placesOn_58 rfl rfl ?_
            refine e_iconst (pc := 59) (v := 0) dX11_placesOn_59 (by decide) ?_
            have k17 := hv.1
            replace hv := hv.2
            refine e_callVv (pc := 60) (ci := 11) (st := []) (rc' := 0) (rs' := 0) (B' := bX11_stand) [vI l3, vI 0] dX11_placesOn_60 vRX11_309 kX11_stand (by decide) rfl k17 rfl rfl (Nat.le_of_ble_eq_true rfl) ⟨Nat.le_of_ble_eq_true rfl, Nat.le_of_ble_eq_true rfl⟩ rfl rfl hv (fun w15 hv => ?_)
            refine e_aload_n (pc := 63) (i := 0) dX11_placesOn_63 rfl rfl ?_
            have k18 := hv.1
            replace hv := hv.2
            refine e_getR (pc := 64) dX11_placesOn_64 fRX11_84 rfl k18 ?_
            refine e_iload_n (pc := 67) (i := 3) dX11_placesOn_67 rfl rfl ?_
            have k19 := hv.1
            replace hv := hv.2
            have hi20 := hv.1
            replace hv := hv.2
            refine e_iald (pc := 68) dX11_placesOn_68 k19 hi20 ?_
            refine e_istore (pc := 69) (i := 4) (lv' := [(0, vR l0), (1, vI l1), (2, vI l2), (3, vI l3), (4, vI (xI w15 (wR w15 11 25 l0) l3.toNatClampNeg))]) dX11_placesOn_69 (by decide) rfl ?_
            refine e_iload (pc := 71) (i := 4) dX11_placesOn_71 rfl ?_
            refine e_if_eq (pc := 73) (tgt := 111) dX11_placesOn_73 (by decide) (fun h21 => ?_) (fun h21 => ?_)
            · replace hv := hv.1 h21
              refine e_iinc (pc := 111) (v := l3 + 1) (lv' := [(0, vR l0), (1, vI l1), (2, vI l2), (3, vI (l3 + 1)), (4, vI (xI w15 (wR w15 11 25 l0) l3.toNatClampNeg))]) dX11_placesOn_111 rfl rfl (by decide) rfl ?_
              refine e_goto (pc := 114) (tgt := 7) dX11_placesOn_114 (by decide) ?_
              exact EJ.drop [0, 1, 2, 3] rfl hv
            · replace hv := hv.2 h21
              refine e_aload_n (pc := 76) (i := 0) dX11_placesOn_76 rfl rfl ?_
              refine e_aload_n (pc := 77) (i := 0) dX11_placesOn_77 rfl rfl ?_
              refine e_getR (pc := 78) dX11_placesOn_78 fRX11_87 rfl k18 ?_
              refine e_iload_n (pc := 81) (i := 3) dX11_placesOn_81 rfl rfl ?_
              have k22 := hv.1
              replace hv := hv.2
              have hi23 := hv.1
              replace hv := hv.2
              refine e_iald (pc := 82) dX11_placesOn_82 k22 hi23 ?_
              refine e_aload_n (pc := 83) (i := 0) dX11_placesOn_83 rfl rfl ?_
              refine e_getR (pc := 84) dX11_placesOn_84 fRX11_90 rfl k18 ?_
              refine e_iload_n (pc := 87) (i := 3) dX11_placesOn_87 rfl rfl ?_
              have k24 := hv.1
              replace hv := hv.2
              have hi25 := hv.1
              replace hv := hv.2
              refine e_iald (pc := 88) dX11_placesOn_88 k24 hi25 ?_
              refine e_callVi (pc := 89) (ci := 11) (st := []) (rc' := 0) (rs' := 0) (B' := bX11_counts) [vI (xI w15 (wR w15 11 26 l0) l3.toNatClampNeg), vI (xI w15 (wR w15 11 27 l0) l3.toNatClampNeg)] dX11_placesOn_89 vRX11_185 kX11_counts (by decide) rfl k18 rfl rfl (Nat.le_of_ble_eq_true rfl) ⟨Nat.le_of_ble_eq_true rfl, Nat.le_of_ble_eq_true rfl⟩ rfl rfl hv (fun x27 w26 hv => ?_)
              refine e_if_eq (pc := 92) (tgt := 111) dX11_placesOn_92 (by decide) (fun h28 => ?_) (fun h28 => ?_)
              · replace hv := hv.1 h28
                refine e_iinc (pc := 111) (v := l3 + 1) (lv' := [(0, vR l0), (1, vI l1), (2, vI l2), (3, vI (l3 + 1)), (4, vI (xI w15 (wR w15 11 25 l0) l3.toNatClampNeg))]) dX11_placesOn_111 rfl rfl (by decide) rfl ?_
                refine e_goto (pc := 114) (tgt := 7) dX11_placesOn_114 (by decide) ?_
                exact EJ.drop [0, 1, 2, 3] rfl hv
              · replace hv := hv.2 h28
                refine e_aload_n (pc := 95) (i := 0) dX11_placesOn_95 rfl rfl ?_
                refine e_iload (pc := 96) (i := 4) dX11_placesOn_96 rfl ?_
                refine e_iload_n (pc := 98) (i := 2) dX11_placesOn_98 rfl rfl ?_
                have k31 := hv.1
                replace hv := hv.2
                refine e_callVi (pc := 99) (ci := 11) (st := []) (rc' := 0) (rs' := 0) (B' := bX11_lies) [vI (xI w15 (wR w15 11 25 l0) l3.toNatClampNeg), vI l2] dX11_placesOn_99 vRX11_293 kX11_lies (by decide) rfl k31 rfl rfl (Nat.le_of_ble_eq_true rfl) ⟨Nat.le_of_ble_eq_true rfl, Nat.le_of_ble_eq_true rfl⟩ rfl rfl hv (fun x30 w29 hv => ?_)
                refine e_if_eq (pc := 102) (tgt := 111) dX11_placesOn_102 (by decide) (fun h32 => ?_) (fun h32 => ?_)
                · replace hv := hv.1 h32
                  refine e_iinc (pc := 111) (v := l3 + 1) (lv' := [(0, vR l0), (1, vI l1), (2, vI l2), (3, vI (l3 + 1)), (4, vI (xI w15 (wR w15 11 25 l0) l3.toNatClampNeg))]) dX11_placesOn_111 rfl rfl (by decide) rfl ?_
                  refine e_goto (pc := 114) (tgt := 7) dX11_placesOn_114 (by decide) ?_
                  exact EJ.drop [0, 1, 2, 3] rfl hv
                · replace hv := hv.2 h32
                  refine e_aload_n (pc := 105) (i := 0) dX11_placesOn_105 rfl rfl ?_
                  refine e_iload_n (pc := 106) (i := 3) dX11_placesOn_106 rfl rfl ?_
                  refine e_iconst (pc := 107) (v := 1) dX11_placesOn_107 (by decide) ?_
                  have k35 := hv.1
                  replace hv := hv.2
                  refine e_callVv (pc := 108) (ci := 11) (st := []) (rc' := 0) (rs' := 0) (B' := bX11_stand) [vI l3, vI 1] dX11_placesOn_108 vRX11_309 kX11_stand (by decide) rfl k35 rfl rfl (Nat.le_of_ble_eq_true rfl) ⟨Nat.le_of_ble_eq_true rfl, Nat.le_of_ble_eq_true rfl⟩ rfl rfl hv (fun w33 hv => ?_)
                  refine e_iinc (pc := 111) (v := l3 + 1) (lv' := [(0, vR l0), (1, vI l1), (2, vI l2), (3, vI (l3 + 1)), (4, vI (xI w15 (wR w15 11 25 l0) l3.toNatClampNeg))]) dX11_placesOn_111 rfl rfl (by decide) rfl ?_
                  refine e_goto (pc := 114) (tgt := 7) dX11_placesOn_114 (by decide) ?_
                  exact EJ.drop [0, 1, 2, 3] rfl hv
          · replace hv := hv.2 h14
            refine e_goto (pc := 54) (tgt := 111) dX11_placesOn_54 (by decide) ?_
            refine e_iinc (pc := 111) (v := l3 + 1) (lv' := [(0, vR l0), (1, vI l1), (2, vI l2), (3, vI (l3 + 1))]) dX11_placesOn_111 rfl rfl (by decide) rfl ?_
            refine e_goto (pc := 114) (tgt := 7) dX11_placesOn_114 (by decide) ?_
            exact hv
set_option maxRecDepth 100000 in
set_option maxHeartbeats 4000000 in
theorem oX11_placesOn (X : Cx) (A : Wd → Prop) (a0 : Nat) (a1 : Int32) (a2 : Int32) (w : Wd)
    (hv : wK w a0 = 12 ∧ ∀ w2 : Wd, w2 = sI w 11 57 a0 0 → jX11_placesOn_7 X A a0 a1 a2 1 w2) :
    Ct X bX11_placesOn mX11_placesOn [vR a0, vI a1, vI a2] w (qV A) := by
  refine Ct.of (lv := [(0, vR a0), (1, vI a1), (2, vI a2)]) rfl (Nat.le_of_ble_eq_true rfl) rfl ?_
  refine e_aload_n (pc := 0) (i := 0) dX11_placesOn_0 rfl rfl ?_
  refine e_iconst (pc := 1) (v := 0) dX11_placesOn_1 (by decide) ?_
  have k1 := hv.1
  replace hv := hv.2
  obtain ⟨w2, hw2⟩ : ∃ w2 : Wd, w2 = sI w 11 57 a0 0 := ⟨_, rfl⟩
  replace hv := hv w2 hw2
  refine e_putI (pc := 2) dX11_placesOn_2 fRX11_302 (Or.inl rfl) rfl k1 ?_
  rw [← hw2]
  refine e_iconst (pc := 5) (v := 1) dX11_placesOn_5 (by decide) ?_
  refine e_istore_n (pc := 6) (i := 3) (lv' := [(0, vR a0), (1, vI a1), (2, vI a2), (3, vI 1)]) dX11_placesOn_6 rfl (by decide) rfl ?_
  exact hv
set_option maxRecDepth 100000 in
set_option maxHeartbeats 4000000 in
theorem oX11_isPosted (X : Cx) (A : Int32 → Wd → Prop) (a0 : Nat) (a1 : Int32) (a2 : Int32) (w : Wd)
    (hv : wK w a0 = 12 ∧ wK w (wR w 11 34 a0) = 13 ∧ vp_in a1 (wL w (wR w 11 34 a0)) ∧ wK w (wR w 11 35 a0) = 13 ∧ vp_in a1 (wL w (wR w 11 35 a0)) ∧ Ct X bX11_counts mX11_counts [vR a0, vI (xI w (wR w 11 34 a0) a1.toNatClampNeg), vI (xI w (wR w 11 35 a0) a1.toNatClampNeg)] w (qI fun x7 w6 => ((x7 = 0) → A 0 w6) ∧ ((¬ x7 = 0) → wK w6 a0 = 12 ∧ wK w6 (wR w6 11 36 a0) = 13 ∧ vp_in a1 (wL w6 (wR w6 11 36 a0)) ∧ wK w6 (wR w6 11 37 a0) = 13 ∧ vp_in a1 (wL w6 (wR w6 11 37 a0)) ∧ Ct X bX11_counts mX11_counts [vR a0, vI (xI w6 (wR w6 11 36 a0) a1.toNatClampNeg), vI (xI w6 (wR w6 11 37 a0) a1.toNatClampNeg)] w6 (qI fun x15 w14 => ((x15 = 0) → wK w14 a0 = 12 ∧ wK w14 (wR w14 11 31 a0) = 13 ∧ vp_in a1 (wL w14 (wR w14 11 31 a0)) ∧ Ct X bX11_lies mX11_lies [vR a0, vI (xI w14 (wR w14 11 31 a0) a1.toNatClampNeg), vI a2] w14 (qI fun x21 w20 => ((x21 = 0) → A 0 w20) ∧ ((¬ x21 = 0) → wK w20 a0 = 12 ∧ wK w20 (wR w20 11 32 a0) = 13 ∧ vp_in a1 (wL w20 (wR w20 11 32 a0)) ∧ Ct X bX11_lies mX11_lies [vR a0, vI (xI w20 (wR w20 11 32 a0) a1.toNatClampNeg), vI a2] w20 (qI fun x27 w26 => ((x27 = 0) → A 0 w26) ∧ ((¬ x27 = 0) → A 1 w26))))) ∧ ((¬ x15 = 0) → A 0 w14))))) :
    Ct X bX11_isPosted mX11_isPosted [vR a0, vI a1, vI a2] w (qI A) := by
  refine Ct.of (lv := [(0, vR a0), (1, vI a1), (2, vI a2)]) rfl (Nat.le_of_ble_eq_true rfl) rfl ?_
  refine e_aload_n (pc := 0) (i := 0) dX11_isPosted_0 rfl rfl ?_
  refine e_aload_n (pc := 1) (i := 0) dX11_isPosted_1 rfl rfl ?_
  have k1 := hv.1
  replace hv := hv.2
  refine e_getR (pc := 2) dX11_isPosted_2 fRX11_108 rfl k1 ?_
  refine e_iload_n (pc := 5) (i := 1) dX11_isPosted_5 rfl rfl ?_
  have k2 := hv.1
  replace hv := hv.2
  have hi3 := hv.1
  replace hv := hv.2
  refine e_iald (pc := 6) dX11_isPosted_6 k2 hi3 ?_
  refine e_aload_n (pc := 7) (i := 0) dX11_isPosted_7 rfl rfl ?_
  refine e_getR (pc := 8) dX11_isPosted_8 fRX11_111 rfl k1 ?_
  refine e_iload_n (pc := 11) (i := 1) dX11_isPosted_11 rfl rfl ?_
  have k4 := hv.1
  replace hv := hv.2
  have hi5 := hv.1
  replace hv := hv.2
  refine e_iald (pc := 12) dX11_isPosted_12 k4 hi5 ?_
  refine e_callVi (pc := 13) (ci := 11) (st := []) (rc' := 0) (rs' := 0) (B' := bX11_counts) [vI (xI w (wR w 11 34 a0) a1.toNatClampNeg), vI (xI w (wR w 11 35 a0) a1.toNatClampNeg)] dX11_isPosted_13 vRX11_185 kX11_counts (by decide) rfl k1 rfl rfl (Nat.le_of_ble_eq_true rfl) ⟨Nat.le_of_ble_eq_true rfl, Nat.le_of_ble_eq_true rfl⟩ rfl rfl hv (fun x7 w6 hv => ?_)
  refine e_if_eq (pc := 16) (tgt := 38) dX11_isPosted_16 (by decide) (fun h8 => ?_) (fun h8 => ?_)
  · replace hv := hv.1 h8
    refine e_iconst (pc := 38) (v := 0) dX11_isPosted_38 (by decide) ?_
    exact e_zreturn (pc := 39) dX11_isPosted_39 rfl (Or.inl rfl) ⟨_, rfl, hv⟩
  · replace hv := hv.2 h8
    refine e_aload_n (pc := 19) (i := 0) dX11_isPosted_19 rfl rfl ?_
    refine e_aload_n (pc := 20) (i := 0) dX11_isPosted_20 rfl rfl ?_
    have k9 := hv.1
    replace hv := hv.2
    refine e_getR (pc := 21) dX11_isPosted_21 fRX11_114 rfl k9 ?_
    refine e_iload_n (pc := 24) (i := 1) dX11_isPosted_24 rfl rfl ?_
    have k10 := hv.1
    replace hv := hv.2
    have hi11 := hv.1
    replace hv := hv.2
    refine e_iald (pc := 25) dX11_isPosted_25 k10 hi11 ?_
    refine e_aload_n (pc := 26) (i := 0) dX11_isPosted_26 rfl rfl ?_
    refine e_getR (pc := 27) dX11_isPosted_27 fRX11_117 rfl k9 ?_
    refine e_iload_n (pc := 30) (i := 1) dX11_isPosted_30 rfl rfl ?_
    have k12 := hv.1
    replace hv := hv.2
    have hi13 := hv.1
    replace hv := hv.2
    refine e_iald (pc := 31) dX11_isPosted_31 k12 hi13 ?_
    refine e_callVi (pc := 32) (ci := 11) (st := []) (rc' := 0) (rs' := 0) (B' := bX11_counts) [vI (xI w6 (wR w6 11 36 a0) a1.toNatClampNeg), vI (xI w6 (wR w6 11 37 a0) a1.toNatClampNeg)] dX11_isPosted_32 vRX11_185 kX11_counts (by decide) rfl k9 rfl rfl (Nat.le_of_ble_eq_true rfl) ⟨Nat.le_of_ble_eq_true rfl, Nat.le_of_ble_eq_true rfl⟩ rfl rfl hv (fun x15 w14 hv => ?_)
    refine e_if_eq (pc := 35) (tgt := 40) dX11_isPosted_35 (by decide) (fun h16 => ?_) (fun h16 => ?_)
    · replace hv := hv.1 h16
      refine e_aload_n (pc := 40) (i := 0) dX11_isPosted_40 rfl rfl ?_
      refine e_aload_n (pc := 41) (i := 0) dX11_isPosted_41 rfl rfl ?_
      have k17 := hv.1
      replace hv := hv.2
      refine e_getR (pc := 42) dX11_isPosted_42 fRX11_99 rfl k17 ?_
      refine e_iload_n (pc := 45) (i := 1) dX11_isPosted_45 rfl rfl ?_
      have k18 := hv.1
      replace hv := hv.2
      have hi19 := hv.1
      replace hv := hv.2
      refine e_iald (pc := 46) dX11_isPosted_46 k18 hi19 ?_
      refine e_iload_n (pc := 47) (i := 2) dX11_isPosted_47 rfl rfl ?_
      refine e_callVi (pc := 48) (ci := 11) (st := []) (rc' := 0) (rs' := 0) (B' := bX11_lies) [vI (xI w14 (wR w14 11 31 a0) a1.toNatClampNeg), vI a2] dX11_isPosted_48 vRX11_293 kX11_lies (by decide) rfl k17 rfl rfl (Nat.le_of_ble_eq_true rfl) ⟨Nat.le_of_ble_eq_true rfl, Nat.le_of_ble_eq_true rfl⟩ rfl rfl hv (fun x21 w20 hv => ?_)
      refine e_if_eq (pc := 51) (tgt := 72) dX11_isPosted_51 (by decide) (fun h22 => ?_) (fun h22 => ?_)
      · replace hv := hv.1 h22
        refine e_iconst (pc := 72) (v := 0) dX11_isPosted_72 (by decide) ?_
        exact e_zreturn (pc := 73) dX11_isPosted_73 rfl (Or.inl rfl) ⟨_, rfl, hv⟩
      · replace hv := hv.2 h22
        refine e_aload_n (pc := 54) (i := 0) dX11_isPosted_54 rfl rfl ?_
        refine e_aload_n (pc := 55) (i := 0) dX11_isPosted_55 rfl rfl ?_
        have k23 := hv.1
        replace hv := hv.2
        refine e_getR (pc := 56) dX11_isPosted_56 fRX11_102 rfl k23 ?_
        refine e_iload_n (pc := 59) (i := 1) dX11_isPosted_59 rfl rfl ?_
        have k24 := hv.1
        replace hv := hv.2
        have hi25 := hv.1
        replace hv := hv.2
        refine e_iald (pc := 60) dX11_isPosted_60 k24 hi25 ?_
        refine e_iload_n (pc := 61) (i := 2) dX11_isPosted_61 rfl rfl ?_
        refine e_callVi (pc := 62) (ci := 11) (st := []) (rc' := 0) (rs' := 0) (B' := bX11_lies) [vI (xI w20 (wR w20 11 32 a0) a1.toNatClampNeg), vI a2] dX11_isPosted_62 vRX11_293 kX11_lies (by decide) rfl k23 rfl rfl (Nat.le_of_ble_eq_true rfl) ⟨Nat.le_of_ble_eq_true rfl, Nat.le_of_ble_eq_true rfl⟩ rfl rfl hv (fun x27 w26 hv => ?_)
        refine e_if_eq (pc := 65) (tgt := 72) dX11_isPosted_65 (by decide) (fun h28 => ?_) (fun h28 => ?_)
        · replace hv := hv.1 h28
          refine e_iconst (pc := 72) (v := 0) dX11_isPosted_72 (by decide) ?_
          exact e_zreturn (pc := 73) dX11_isPosted_73 rfl (Or.inl rfl) ⟨_, rfl, hv⟩
        · replace hv := hv.2 h28
          refine e_iconst (pc := 68) (v := 1) dX11_isPosted_68 (by decide) ?_
          refine e_goto (pc := 69) (tgt := 73) dX11_isPosted_69 (by decide) ?_
          exact e_zreturn (pc := 73) dX11_isPosted_73 rfl (Or.inr rfl) ⟨_, rfl, hv⟩
    · replace hv := hv.2 h16
      refine e_iconst (pc := 38) (v := 0) dX11_isPosted_38 (by decide) ?_
      exact e_zreturn (pc := 39) dX11_isPosted_39 rfl (Or.inl rfl) ⟨_, rfl, hv⟩
abbrev jX11_standsAt_2 (X : Cx) (A : Int32 → Wd → Prop) (l0 : Nat) (l1 : Int32) (l2 : Int32) (w : Wd) : Prop := EJ X mX11_standsAt (vw X bX11_standsAt (qI A)) 0 0 2 [(0, vR l0), (1, vI l1), (2, vI l2)] [] w
set_option maxRecDepth 100000 in
set_option maxHeartbeats 4000000 in
theorem tX11_standsAt_2 (X : Cx) (A : Int32 → Wd → Prop) (l0 : Nat) (l1 : Int32) (l2 : Int32) (w : Wd)
    (hv : wK w l0 = 12 ∧ (((wI w 11 58 l0) ≤ l2) → A (-1) w) ∧ ((¬ (wI w 11 58 l0) ≤ l2) → wK w (wR w 11 55 l0) = 13 ∧ vp_in l2 (wL w (wR w 11 55 l0)) ∧ ((¬ (xI w (wR w 11 55 l0) l2.toNatClampNeg) = l1) → jX11_standsAt_2 X A l0 l1 (l2 + 1) w) ∧ (((xI w (wR w 11 55 l0) l2.toNatClampNeg) = l1) → A l2 w))) :
    jX11_standsAt_2 X A l0 l1 l2 w := by
  refine e_iload_n (pc := 2) (i := 2) dX11_standsAt_2 rfl rfl ?_
  refine e_aload_n (pc := 3) (i := 0) dX11_standsAt_3 rfl rfl ?_
  have k1 := hv.1
  replace hv := hv.2
  refine e_getI (pc := 4) dX11_standsAt_4 fRX11_313 rfl k1 ?_
  refine e_icmp_ge (pc := 7) (tgt := 28) dX11_standsAt_7 (by decide) (fun h2 => ?_) (fun h2 => ?_)
  · replace hv := hv.1 h2
    refine e_iconst (pc := 28) (v := (-1)) dX11_standsAt_28 (by decide) ?_
    exact e_ireturn (pc := 29) dX11_standsAt_29 rfl ⟨_, rfl, hv⟩
  · replace hv := hv.2 h2
    refine e_aload_n (pc := 10) (i := 0) dX11_standsAt_10 rfl rfl ?_
    refine e_getR (pc := 11) dX11_standsAt_11 fRX11_142 rfl k1 ?_
    refine e_iload_n (pc := 14) (i := 2) dX11_standsAt_14 rfl rfl ?_
    have k3 := hv.1
    replace hv := hv.2
    have hi4 := hv.1
    replace hv := hv.2
    refine e_iald (pc := 15) dX11_standsAt_15 k3 hi4 ?_
    refine e_iload_n (pc := 16) (i := 1) dX11_standsAt_16 rfl rfl ?_
    refine e_icmp_ne (pc := 17) (tgt := 22) dX11_standsAt_17 (by decide) (fun h5 => ?_) (fun h5 => ?_)
    · replace hv := hv.1 h5
      refine e_iinc (pc := 22) (v := l2 + 1) (lv' := [(0, vR l0), (1, vI l1), (2, vI (l2 + 1))]) dX11_standsAt_22 rfl rfl (by decide) rfl ?_
      refine e_goto (pc := 25) (tgt := 2) dX11_standsAt_25 (by decide) ?_
      exact hv
    · replace hv := hv.2 h5
      refine e_iload_n (pc := 20) (i := 2) dX11_standsAt_20 rfl rfl ?_
      exact e_ireturn (pc := 21) dX11_standsAt_21 rfl ⟨_, rfl, hv⟩
set_option maxRecDepth 100000 in
set_option maxHeartbeats 4000000 in
theorem oX11_standsAt (X : Cx) (A : Int32 → Wd → Prop) (a0 : Nat) (a1 : Int32) (w : Wd)
    (hv : jX11_standsAt_2 X A a0 a1 0 w) :
    Ct X bX11_standsAt mX11_standsAt [vR a0, vI a1] w (qI A) := by
  refine Ct.of (lv := [(0, vR a0), (1, vI a1)]) rfl (Nat.le_of_ble_eq_true rfl) rfl ?_
  refine e_iconst (pc := 0) (v := 0) dX11_standsAt_0 (by decide) ?_
  refine e_istore_n (pc := 1) (i := 2) (lv' := [(0, vR a0), (1, vI a1), (2, vI 0)]) dX11_standsAt_1 rfl (by decide) rfl ?_
  exact hv
abbrev jX11_orderOn_13 (X : Cx) (A : Wd → Prop) (l0 : Nat) (l1 : Int32) (l2 : Int32) (l3 : Int32) (w : Wd) : Prop := EJ X mX11_orderOn (vw X bX11_orderOn (qV A)) 0 0 13 [(0, vR l0), (1, vI l1), (2, vI l2), (3, vI l3)] [] w
abbrev jX11_orderOn_80 (X : Cx) (A : Wd → Prop) (l0 : Nat) (l1 : Int32) (l2 : Int32) (l3 : Int32) (w : Wd) : Prop := EJ X mX11_orderOn (vw X bX11_orderOn (qV A)) 0 0 80 [(0, vR l0), (1, vI l1), (2, vI l2), (3, vI l3)] [] w
set_option maxRecDepth 100000 in
set_option maxHeartbeats 4000000 in
theorem tX11_orderOn_80 (X : Cx) (A : Wd → Prop) (l0 : Nat) (l1 : Int32) (l2 : Int32) (l3 : Int32) (w : Wd)
    (hv : wK w l0 = 12 ∧ (((wI w 11 38 l0) < l3) → A w) ∧ ((¬ (wI w 11 38 l0) < l3) → wK w (wR w 11 31 l0) = 13 ∧ vp_in l3 (wL w (wR w 11 31 l0)) ∧ wK w (wR w 11 4 l0) = 13 ∧ vp_in (xI w (wR w 11 31 l0) l3.toNatClampNeg) (wL w (wR w 11 4 l0)) ∧ ((¬ (xI w (wR w 11 4 l0) (xI w (wR w 11 31 l0) l3.toNatClampNeg).toNatClampNeg) = l1) → jX11_orderOn_80 X A l0 l1 l2 (l3 + 1) w) ∧ (((xI w (wR w 11 4 l0) (xI w (wR w 11 31 l0) l3.toNatClampNeg).toNatClampNeg) = l1) → Ct X bX11_isPosted mX11_isPosted [vR l0, vI l3, vI l2] w (qI fun x9 w8 => ((¬ x9 = 0) → wK w8 l0 = 12 ∧ wK w8 (wR w8 11 31 l0) = 13 ∧ vp_in l3 (wL w8 (wR w8 11 31 l0)) ∧ wK w8 (wR w8 11 5 l0) = 13 ∧ vp_in (xI w8 (wR w8 11 31 l0) l3.toNatClampNeg) (wL w8 (wR w8 11 5 l0)) ∧ Ct X bX11_standsAt mX11_standsAt [vR l0, vI (xI w8 (wR w8 11 5 l0) (xI w8 (wR w8 11 31 l0) l3.toNatClampNeg).toNatClampNeg)] w8 (qI fun x17 w16 => wK w16 l0 = 12 ∧ wK w16 (wR w16 11 32 l0) = 13 ∧ vp_in l3 (wL w16 (wR w16 11 32 l0)) ∧ wK w16 (wR w16 11 5 l0) = 13 ∧ vp_in (xI w16 (wR w16 11 32 l0) l3.toNatClampNeg) (wL w16 (wR w16 11 5 l0)) ∧ Ct X bX11_standsAt mX11_standsAt [vR l0, vI (xI w16 (wR w16 11 5 l0) (xI w16 (wR w16 11 32 l0) l3.toNatClampNeg).toNatClampNeg)] w16 (qI fun x24 w23 => ((x24 ≤ x17) → jX11_orderOn_80 X A l0 l1 l2 (l3 + 1) w23) ∧ ((¬ x24 ≤ x17) → wK w23 l0 = 12 ∧ wK w23 (wR w23 11 55 l0) = 13 ∧ vp_in x17 (wL w23 (wR w23 11 55 l0)) ∧ vp_in x24 (wL w23 (wR w23 11 55 l0)) ∧ vp_in x17 (wL w23 (wR w23 11 55 l0)) ∧ ∀ w31 : Wd, w31 = yI w23 (wR w23 11 55 l0) x17.toNatClampNeg (xI w23 (wR w23 11 55 l0) x24.toNatClampNeg) → wK w31 (wR w31 11 55 l0) = 13 ∧ vp_in x24 (wL w31 (wR w31 11 55 l0)) ∧ ∀ w35 : Wd, w35 = yI w31 (wR w31 11 55 l0) x24.toNatClampNeg (xI w23 (wR w23 11 55 l0) x17.toNatClampNeg) → wK w35 (wR w35 11 55 l0) = 13 ∧ vp_in x17 (wL w35 (wR w35 11 55 l0)) ∧ wK w35 (wR w35 11 56 l0) = 13 ∧ vp_in (xI w35 (wR w35 11 55 l0) x17.toNatClampNeg) (wL w35 (wR w35 11 56 l0)) ∧ vp_in (xI w35 (wR w35 11 55 l0) x17.toNatClampNeg) (wL w35 (wR w35 11 56 l0)) ∧ ∀ w42 : Wd, w42 = yI w35 (wR w35 11 56 l0) (xI w35 (wR w35 11 55 l0) x17.toNatClampNeg).toNatClampNeg ((xI w35 (wR w35 11 56 l0) (xI w35 (wR w35 11 55 l0) x17.toNatClampNeg).toNatClampNeg) + 1) → wK w42 (wR w42 11 55 l0) = 13 ∧ vp_in x24 (wL w42 (wR w42 11 55 l0)) ∧ wK w42 (wR w42 11 56 l0) = 13 ∧ vp_in (xI w42 (wR w42 11 55 l0) x24.toNatClampNeg) (wL w42 (wR w42 11 56 l0)) ∧ vp_in (xI w42 (wR w42 11 55 l0) x24.toNatClampNeg) (wL w42 (wR w42 11 56 l0)) ∧ ∀ w49 : Wd, w49 = yI w42 (wR w42 11 56 l0) (xI w42 (wR w42 11 55 l0) x24.toNatClampNeg).toNatClampNeg ((xI w42 (wR w42 11 56 l0) (xI w42 (wR w42 11 55 l0) x24.toNatClampNeg).toNatClampNeg) + 1) → jX11_orderOn_80 X A l0 l1 l2 (l3 + 1) w49)))) ∧ ((x9 = 0) → jX11_orderOn_80 X A l0 l1 l2 (l3 + 1) w8))))) :
    jX11_orderOn_80 X A l0 l1 l2 l3 w := by
  refine e_iload_n (pc := 80) (i := 3) dX11_orderOn_80 rfl rfl ?_
  refine e_aload_n (pc := 81) (i := 0) dX11_orderOn_81 rfl rfl ?_
  have k1 := hv.1
  replace hv := hv.2
  refine e_getI (pc := 82) dX11_orderOn_82 fRX11_275 rfl k1 ?_
  refine e_icmp_gt (pc := 85) (tgt := 226) dX11_orderOn_85 (by decide) (fun h2 => ?_) (fun h2 => ?_)
  · replace hv := hv.1 h2
    exact e_vreturn (pc := 226) dX11_orderOn_226 rfl ⟨rfl, hv⟩
  · replace hv := hv.2 h2
    refine e_aload_n (pc := 88) (i := 0) dX11_orderOn_88 rfl rfl ?_
    refine e_getR (pc := 89) dX11_orderOn_89 fRX11_20 rfl k1 ?_
    refine e_aload_n (pc := 92) (i := 0) dX11_orderOn_92 rfl rfl ?_
    refine e_getR (pc := 93) dX11_orderOn_93 fRX11_99 rfl k1 ?_
    refine e_iload_n (pc := 96) (i := 3) dX11_orderOn_96 rfl rfl ?_
    have k3 := hv.1
    replace hv := hv.2
    have hi4 := hv.1
    replace hv := hv.2
    refine e_iald (pc := 97) dX11_orderOn_97 k3 hi4 ?_
    have k5 := hv.1
    replace hv := hv.2
    have hi6 := hv.1
    replace hv := hv.2
    refine e_iald (pc := 98) dX11_orderOn_98 k5 hi6 ?_
    refine e_iload_n (pc := 99) (i := 1) dX11_orderOn_99 rfl rfl ?_
    refine e_icmp_ne (pc := 100) (tgt := 220) dX11_orderOn_100 (by decide) (fun h7 => ?_) (fun h7 => ?_)
    · replace hv := hv.1 h7
      refine e_iinc (pc := 220) (v := l3 + 1) (lv' := [(0, vR l0), (1, vI l1), (2, vI l2), (3, vI (l3 + 1))]) dX11_orderOn_220 rfl rfl (by decide) rfl ?_
      refine e_goto (pc := 223) (tgt := 80) dX11_orderOn_223 (by decide) ?_
      exact hv
    · replace hv := hv.2 h7
      refine e_aload_n (pc := 103) (i := 0) dX11_orderOn_103 rfl rfl ?_
      refine e_iload_n (pc := 104) (i := 3) dX11_orderOn_104 rfl rfl ?_
      refine e_iload_n (pc := 105) (i := 2) dX11_orderOn_105 rfl rfl ?_
      refine e_callVi (pc := 106) (ci := 11) (st := []) (rc' := 0) (rs' := 0) (B' := bX11_isPosted) [vI l3, vI l2] dX11_orderOn_106 vRX11_322 kX11_isPosted (by decide) rfl k1 rfl rfl (Nat.le_of_ble_eq_true rfl) ⟨Nat.le_of_ble_eq_true rfl, Nat.le_of_ble_eq_true rfl⟩ rfl rfl hv (fun x9 w8 hv => ?_)
      refine e_if_ne (pc := 109) (tgt := 115) dX11_orderOn_109 (by decide) (fun h10 => ?_) (fun h10 => ?_)
      · replace hv := hv.1 h10
        refine e_aload_n (pc := 115) (i := 0) dX11_orderOn_115 rfl rfl ?_
        refine e_aload_n (pc := 116) (i := 0) dX11_orderOn_116 rfl rfl ?_
        have k11 := hv.1
        replace hv := hv.2
        refine e_getR (pc := 117) dX11_orderOn_117 fRX11_23 rfl k11 ?_
        refine e_aload_n (pc := 120) (i := 0) dX11_orderOn_120 rfl rfl ?_
        refine e_getR (pc := 121) dX11_orderOn_121 fRX11_99 rfl k11 ?_
        refine e_iload_n (pc := 124) (i := 3) dX11_orderOn_124 rfl rfl ?_
        have k12 := hv.1
        replace hv := hv.2
        have hi13 := hv.1
        replace hv := hv.2
        refine e_iald (pc := 125) dX11_orderOn_125 k12 hi13 ?_
        have k14 := hv.1
        replace hv := hv.2
        have hi15 := hv.1
        replace hv := hv.2
        refine e_iald (pc := 126) dX11_orderOn_126 k14 hi15 ?_
        refine e_callVi (pc := 127) (ci := 11) (st := []) (rc' := 0) (rs' := 0) (B' := bX11_standsAt) [vI (xI w8 (wR w8 11 5 l0) (xI w8 (wR w8 11 31 l0) l3.toNatClampNeg).toNatClampNeg)] dX11_orderOn_127 vRX11_319 kX11_standsAt (by decide) rfl k11 rfl rfl (Nat.le_of_ble_eq_true rfl) ⟨Nat.le_of_ble_eq_true rfl, Nat.le_of_ble_eq_true rfl⟩ rfl rfl hv (fun x17 w16 hv => ?_)
        refine e_istore (pc := 130) (i := 4) (lv' := [(0, vR l0), (1, vI l1), (2, vI l2), (3, vI l3), (4, vI x17)]) dX11_orderOn_130 (by decide) rfl ?_
        refine e_aload_n (pc := 132) (i := 0) dX11_orderOn_132 rfl rfl ?_
        refine e_aload_n (pc := 133) (i := 0) dX11_orderOn_133 rfl rfl ?_
        have k18 := hv.1
        replace hv := hv.2
        refine e_getR (pc := 134) dX11_orderOn_134 fRX11_23 rfl k18 ?_
        refine e_aload_n (pc := 137) (i := 0) dX11_orderOn_137 rfl rfl ?_
        refine e_getR (pc := 138) dX11_orderOn_138 fRX11_102 rfl k18 ?_
        refine e_iload_n (pc := 141) (i := 3) dX11_orderOn_141 rfl rfl ?_
        have k19 := hv.1
        replace hv := hv.2
        have hi20 := hv.1
        replace hv := hv.2
        refine e_iald (pc := 142) dX11_orderOn_142 k19 hi20 ?_
        have k21 := hv.1
        replace hv := hv.2
        have hi22 := hv.1
        replace hv := hv.2
        refine e_iald (pc := 143) dX11_orderOn_143 k21 hi22 ?_
        refine e_callVi (pc := 144) (ci := 11) (st := []) (rc' := 0) (rs' := 0) (B' := bX11_standsAt) [vI (xI w16 (wR w16 11 5 l0) (xI w16 (wR w16 11 32 l0) l3.toNatClampNeg).toNatClampNeg)] dX11_orderOn_144 vRX11_319 kX11_standsAt (by decide) rfl k18 rfl rfl (Nat.le_of_ble_eq_true rfl) ⟨Nat.le_of_ble_eq_true rfl, Nat.le_of_ble_eq_true rfl⟩ rfl rfl hv (fun x24 w23 hv => ?_)
        refine e_istore (pc := 147) (i := 5) (lv' := [(0, vR l0), (1, vI l1), (2, vI l2), (3, vI l3), (4, vI x17), (5, vI x24)]) dX11_orderOn_147 (by decide) rfl ?_
        refine e_iload (pc := 149) (i := 4) dX11_orderOn_149 rfl ?_
        refine e_iload (pc := 151) (i := 5) dX11_orderOn_151 rfl ?_
        refine e_icmp_ge (pc := 153) (tgt := 220) dX11_orderOn_153 (by decide) (fun h25 => ?_) (fun h25 => ?_)
        · replace hv := hv.1 h25
          refine e_iinc (pc := 220) (v := l3 + 1) (lv' := [(0, vR l0), (1, vI l1), (2, vI l2), (3, vI (l3 + 1)), (4, vI x17), (5, vI x24)]) dX11_orderOn_220 rfl rfl (by decide) rfl ?_
          refine e_goto (pc := 223) (tgt := 80) dX11_orderOn_223 (by decide) ?_
          exact EJ.drop [0, 1, 2, 3] rfl hv
        · replace hv := hv.2 h25
          refine e_aload_n (pc := 156) (i := 0) dX11_orderOn_156 rfl rfl ?_
          have k26 := hv.1
          replace hv := hv.2
          refine e_getR (pc := 157) dX11_orderOn_157 fRX11_142 rfl k26 ?_
          refine e_iload (pc := 160) (i := 4) dX11_orderOn_160 rfl ?_
          have k27 := hv.1
          replace hv := hv.2
          have hi28 := hv.1
          replace hv := hv.2
          refine e_iald (pc := 162) dX11_orderOn_162 k27 hi28 ?_
          refine e_istore (pc := 163) (i := 6) (lv' := [(0, vR l0), (1, vI l1), (2, vI l2), (3, vI l3), (4, vI x17), (5, vI x24), (6, vI (xI w23 (wR w23 11 55 l0) x17.toNatClampNeg))]) dX11_orderOn_163 (by decide) rfl ?_
          refine e_aload_n (pc := 165) (i := 0) dX11_orderOn_165 rfl rfl ?_
          refine e_getR (pc := 166) dX11_orderOn_166 fRX11_142 rfl k26 ?_
          refine e_iload (pc := 169) (i := 4) dX11_orderOn_169 rfl ?_
          refine e_aload_n (pc := 171) (i := 0) dX11_orderOn_171 rfl rfl ?_
          refine e_getR (pc := 172) dX11_orderOn_172 fRX11_142 rfl k26 ?_
          refine e_iload (pc := 175) (i := 5) dX11_orderOn_175 rfl ?_
          have hi29 := hv.1
          replace hv := hv.2
          refine e_iald (pc := 177) dX11_orderOn_177 k27 hi29 ?_
          have hi30 := hv.1
          replace hv := hv.2
          obtain ⟨w31, hw31⟩ : ∃ w31 : Wd, w31 = yI w23 (wR w23 11 55 l0) x17.toNatClampNeg (xI w23 (wR w23 11 55 l0) x24.toNatClampNeg) := ⟨_, rfl⟩
          replace hv := hv w31 hw31
          refine e_iast (pc := 178) dX11_orderOn_178 k27 hi30 ?_
          rw [← hw31]
          refine e_aload_n (pc := 179) (i := 0) dX11_orderOn_179 rfl rfl ?_
          have k32 : wK w31 l0 = 12 := (by rw [hw31]; exact k26)
          refine e_getR (pc := 180) dX11_orderOn_180 fRX11_142 rfl k32 ?_
          refine e_iload (pc := 183) (i := 5) dX11_orderOn_183 rfl ?_
          refine e_iload (pc := 185) (i := 6) dX11_orderOn_185 rfl ?_
          have k33 := hv.1
          replace hv := hv.2
          have hi34 := hv.1
          replace hv := hv.2
          obtain ⟨w35, hw35⟩ : ∃ w35 : Wd, w35 = yI w31 (wR w31 11 55 l0) x24.toNatClampNeg (xI w23 (wR w23 11 55 l0) x17.toNatClampNeg) := ⟨_, rfl⟩
          replace hv := hv w35 hw35
          refine e_iast (pc := 187) dX11_orderOn_187 k33 hi34 ?_
          rw [← hw35]
          refine e_aload_n (pc := 188) (i := 0) dX11_orderOn_188 rfl rfl ?_
          have k36 : wK w35 l0 = 12 := (by rw [hw35]; exact k32)
          refine e_getR (pc := 189) dX11_orderOn_189 fRX11_145 rfl k36 ?_
          refine e_aload_n (pc := 192) (i := 0) dX11_orderOn_192 rfl rfl ?_
          refine e_getR (pc := 193) dX11_orderOn_193 fRX11_142 rfl k36 ?_
          refine e_iload (pc := 196) (i := 4) dX11_orderOn_196 rfl ?_
          have k37 := hv.1
          replace hv := hv.2
          have hi38 := hv.1
          replace hv := hv.2
          refine e_iald (pc := 198) dX11_orderOn_198 k37 hi38 ?_
          refine e_dup2_11 (pc := 199) dX11_orderOn_199 rfl rfl ?_
          have k39 := hv.1
          replace hv := hv.2
          have hi40 := hv.1
          replace hv := hv.2
          refine e_iald (pc := 200) dX11_orderOn_200 k39 hi40 ?_
          refine e_iconst (pc := 201) (v := 1) dX11_orderOn_201 (by decide) ?_
          refine e_iadd (pc := 202) dX11_orderOn_202 ?_
          have hi41 := hv.1
          replace hv := hv.2
          obtain ⟨w42, hw42⟩ : ∃ w42 : Wd, w42 = yI w35 (wR w35 11 56 l0) (xI w35 (wR w35 11 55 l0) x17.toNatClampNeg).toNatClampNeg ((xI w35 (wR w35 11 56 l0) (xI w35 (wR w35 11 55 l0) x17.toNatClampNeg).toNatClampNeg) + 1) := ⟨_, rfl⟩
          replace hv := hv w42 hw42
          refine e_iast (pc := 203) dX11_orderOn_203 k39 hi41 ?_
          rw [← hw42]
          refine e_aload_n (pc := 204) (i := 0) dX11_orderOn_204 rfl rfl ?_
          have k43 : wK w42 l0 = 12 := (by rw [hw42]; exact k36)
          refine e_getR (pc := 205) dX11_orderOn_205 fRX11_145 rfl k43 ?_
          refine e_aload_n (pc := 208) (i := 0) dX11_orderOn_208 rfl rfl ?_
          refine e_getR (pc := 209) dX11_orderOn_209 fRX11_142 rfl k43 ?_
          refine e_iload (pc := 212) (i := 5) dX11_orderOn_212 rfl ?_
          have k44 := hv.1
          replace hv := hv.2
          have hi45 := hv.1
          replace hv := hv.2
          refine e_iald (pc := 214) dX11_orderOn_214 k44 hi45 ?_
          refine e_dup2_11 (pc := 215) dX11_orderOn_215 rfl rfl ?_
          have k46 := hv.1
          replace hv := hv.2
          have hi47 := hv.1
          replace hv := hv.2
          refine e_iald (pc := 216) dX11_orderOn_216 k46 hi47 ?_
          refine e_iconst (pc := 217) (v := 1) dX11_orderOn_217 (by decide) ?_
          refine e_iadd (pc := 218) dX11_orderOn_218 ?_
          have hi48 := hv.1
          replace hv := hv.2
          obtain ⟨w49, hw49⟩ : ∃ w49 : Wd, w49 = yI w42 (wR w42 11 56 l0) (xI w42 (wR w42 11 55 l0) x24.toNatClampNeg).toNatClampNeg ((xI w42 (wR w42 11 56 l0) (xI w42 (wR w42 11 55 l0) x24.toNatClampNeg).toNatClampNeg) + 1) := ⟨_, rfl⟩
          replace hv := hv w49 hw49
          refine e_iast (pc := 219) dX11_orderOn_219 k46 hi48 ?_
          rw [← hw49]
          refine e_iinc (pc := 220) (v := l3 + 1) (lv' := [(0, vR l0), (1, vI l1), (2, vI l2), (3, vI (l3 + 1)), (4, vI x17), (5, vI x24), (6, vI (xI w23 (wR w23 11 55 l0) x17.toNatClampNeg))]) dX11_orderOn_220 rfl rfl (by decide) rfl ?_
          refine e_goto (pc := 223) (tgt := 80) dX11_orderOn_223 (by decide) ?_
          exact EJ.drop [0, 1, 2, 3] rfl hv
      · replace hv := hv.2 h10
        refine e_goto (pc := 112) (tgt := 220) dX11_orderOn_112 (by decide) ?_
        refine e_iinc (pc := 220) (v := l3 + 1) (lv' := [(0, vR l0), (1, vI l1), (2, vI l2), (3, vI (l3 + 1))]) dX11_orderOn_220 rfl rfl (by decide) rfl ?_
        refine e_goto (pc := 223) (tgt := 80) dX11_orderOn_223 (by decide) ?_
        exact hv
set_option maxRecDepth 100000 in
set_option maxHeartbeats 4000000 in
theorem tX11_orderOn_13 (X : Cx) (A : Wd → Prop) (l0 : Nat) (l1 : Int32) (l2 : Int32) (l3 : Int32) (w : Wd)
    (hv : wK w l0 = 12 ∧ (((wI w 11 57 l0) ≤ l3) → jX11_orderOn_80 X A l0 l1 l2 1 w) ∧ ((¬ (wI w 11 57 l0) ≤ l3) → wK w (wR w 11 53 l0) = 13 ∧ vp_in l3 (wL w (wR w 11 53 l0)) ∧ Ct X bX11_standsAt mX11_standsAt [vR l0, vI (xI w (wR w 11 53 l0) l3.toNatClampNeg)] w (qI fun x6 w5 => ((¬ x6 = (-1)) → jX11_orderOn_13 X A l0 l1 l2 (l3 + 1) w5) ∧ ((x6 = (-1)) → wK w5 l0 = 12 ∧ wK w5 (wR w5 11 53 l0) = 13 ∧ vp_in l3 (wL w5 (wR w5 11 53 l0)) ∧ wK w5 (wR w5 11 55 l0) = 13 ∧ vp_in (wI w5 11 58 l0) (wL w5 (wR w5 11 55 l0)) ∧ ∀ w13 : Wd, w13 = yI w5 (wR w5 11 55 l0) (wI w5 11 58 l0).toNatClampNeg (xI w5 (wR w5 11 53 l0) l3.toNatClampNeg) → wK w13 (wR w13 11 53 l0) = 13 ∧ vp_in l3 (wL w13 (wR w13 11 53 l0)) ∧ wK w13 (wR w13 11 56 l0) = 13 ∧ vp_in (xI w13 (wR w13 11 53 l0) l3.toNatClampNeg) (wL w13 (wR w13 11 56 l0)) ∧ ∀ w19 : Wd, w19 = yI w13 (wR w13 11 56 l0) (xI w13 (wR w13 11 53 l0) l3.toNatClampNeg).toNatClampNeg 0 → ∀ w21 : Wd, w21 = sI w19 11 58 l0 ((wI w19 11 58 l0) + 1) → jX11_orderOn_13 X A l0 l1 l2 (l3 + 1) w21)))) :
    jX11_orderOn_13 X A l0 l1 l2 l3 w := by
  refine e_iload_n (pc := 13) (i := 3) dX11_orderOn_13 rfl rfl ?_
  refine e_aload_n (pc := 14) (i := 0) dX11_orderOn_14 rfl rfl ?_
  have k1 := hv.1
  replace hv := hv.2
  refine e_getI (pc := 15) dX11_orderOn_15 fRX11_302 rfl k1 ?_
  refine e_icmp_ge (pc := 18) (tgt := 78) dX11_orderOn_18 (by decide) (fun h2 => ?_) (fun h2 => ?_)
  · replace hv := hv.1 h2
    refine e_iconst (pc := 78) (v := 1) dX11_orderOn_78 (by decide) ?_
    refine e_istore_n (pc := 79) (i := 3) (lv' := [(0, vR l0), (1, vI l1), (2, vI l2), (3, vI 1)]) dX11_orderOn_79 rfl (by decide) rfl ?_
    exact hv
  · replace hv := hv.2 h2
    refine e_aload_n (pc := 21) (i := 0) dX11_orderOn_21 rfl rfl ?_
    refine e_aload_n (pc := 22) (i := 0) dX11_orderOn_22 rfl rfl ?_
    refine e_getR (pc := 23) dX11_orderOn_23 fRX11_136 rfl k1 ?_
    refine e_iload_n (pc := 26) (i := 3) dX11_orderOn_26 rfl rfl ?_
    have k3 := hv.1
    replace hv := hv.2
    have hi4 := hv.1
    replace hv := hv.2
    refine e_iald (pc := 27) dX11_orderOn_27 k3 hi4 ?_
    refine e_callVi (pc := 28) (ci := 11) (st := []) (rc' := 0) (rs' := 0) (B' := bX11_standsAt) [vI (xI w (wR w 11 53 l0) l3.toNatClampNeg)] dX11_orderOn_28 vRX11_319 kX11_standsAt (by decide) rfl k1 rfl rfl (Nat.le_of_ble_eq_true rfl) ⟨Nat.le_of_ble_eq_true rfl, Nat.le_of_ble_eq_true rfl⟩ rfl rfl hv (fun x6 w5 hv => ?_)
    refine e_iconst (pc := 31) (v := (-1)) dX11_orderOn_31 (by decide) ?_
    refine e_icmp_ne (pc := 32) (tgt := 72) dX11_orderOn_32 (by decide) (fun h7 => ?_) (fun h7 => ?_)
    · replace hv := hv.1 h7
      refine e_iinc (pc := 72) (v := l3 + 1) (lv' := [(0, vR l0), (1, vI l1), (2, vI l2), (3, vI (l3 + 1))]) dX11_orderOn_72 rfl rfl (by decide) rfl ?_
      refine e_goto (pc := 75) (tgt := 13) dX11_orderOn_75 (by decide) ?_
      exact hv
    · replace hv := hv.2 h7
      refine e_aload_n (pc := 35) (i := 0) dX11_orderOn_35 rfl rfl ?_
      have k8 := hv.1
      replace hv := hv.2
      refine e_getR (pc := 36) dX11_orderOn_36 fRX11_142 rfl k8 ?_
      refine e_aload_n (pc := 39) (i := 0) dX11_orderOn_39 rfl rfl ?_
      refine e_getI (pc := 40) dX11_orderOn_40 fRX11_313 rfl k8 ?_
      refine e_aload_n (pc := 43) (i := 0) dX11_orderOn_43 rfl rfl ?_
      refine e_getR (pc := 44) dX11_orderOn_44 fRX11_136 rfl k8 ?_
      refine e_iload_n (pc := 47) (i := 3) dX11_orderOn_47 rfl rfl ?_
      have k9 := hv.1
      replace hv := hv.2
      have hi10 := hv.1
      replace hv := hv.2
      refine e_iald (pc := 48) dX11_orderOn_48 k9 hi10 ?_
      have k11 := hv.1
      replace hv := hv.2
      have hi12 := hv.1
      replace hv := hv.2
      obtain ⟨w13, hw13⟩ : ∃ w13 : Wd, w13 = yI w5 (wR w5 11 55 l0) (wI w5 11 58 l0).toNatClampNeg (xI w5 (wR w5 11 53 l0) l3.toNatClampNeg) := ⟨_, rfl⟩
      replace hv := hv w13 hw13
      refine e_iast (pc := 49) dX11_orderOn_49 k11 hi12 ?_
      rw [← hw13]
      refine e_aload_n (pc := 50) (i := 0) dX11_orderOn_50 rfl rfl ?_
      have k14 : wK w13 l0 = 12 := (by rw [hw13]; exact k8)
      refine e_getR (pc := 51) dX11_orderOn_51 fRX11_145 rfl k14 ?_
      refine e_aload_n (pc := 54) (i := 0) dX11_orderOn_54 rfl rfl ?_
      refine e_getR (pc := 55) dX11_orderOn_55 fRX11_136 rfl k14 ?_
      refine e_iload_n (pc := 58) (i := 3) dX11_orderOn_58 rfl rfl ?_
      have k15 := hv.1
      replace hv := hv.2
      have hi16 := hv.1
      replace hv := hv.2
      refine e_iald (pc := 59) dX11_orderOn_59 k15 hi16 ?_
      refine e_iconst (pc := 60) (v := 0) dX11_orderOn_60 (by decide) ?_
      have k17 := hv.1
      replace hv := hv.2
      have hi18 := hv.1
      replace hv := hv.2
      obtain ⟨w19, hw19⟩ : ∃ w19 : Wd, w19 = yI w13 (wR w13 11 56 l0) (xI w13 (wR w13 11 53 l0) l3.toNatClampNeg).toNatClampNeg 0 := ⟨_, rfl⟩
      replace hv := hv w19 hw19
      refine e_iast (pc := 61) dX11_orderOn_61 k17 hi18 ?_
      rw [← hw19]
      refine e_aload_n (pc := 62) (i := 0) dX11_orderOn_62 rfl rfl ?_
      refine e_dup (pc := 63) dX11_orderOn_63 rfl ?_
      have k20 : wK w19 l0 = 12 := (by rw [hw19]; exact k14)
      refine e_getI (pc := 64) dX11_orderOn_64 fRX11_313 rfl k20 ?_
      refine e_iconst (pc := 67) (v := 1) dX11_orderOn_67 (by decide) ?_
      refine e_iadd (pc := 68) dX11_orderOn_68 ?_
      obtain ⟨w21, hw21⟩ : ∃ w21 : Wd, w21 = sI w19 11 58 l0 ((wI w19 11 58 l0) + 1) := ⟨_, rfl⟩
      replace hv := hv w21 hw21
      refine e_putI (pc := 69) dX11_orderOn_69 fRX11_313 (Or.inl rfl) rfl k20 ?_
      rw [← hw21]
      refine e_iinc (pc := 72) (v := l3 + 1) (lv' := [(0, vR l0), (1, vI l1), (2, vI l2), (3, vI (l3 + 1))]) dX11_orderOn_72 rfl rfl (by decide) rfl ?_
      refine e_goto (pc := 75) (tgt := 13) dX11_orderOn_75 (by decide) ?_
      exact hv
set_option maxRecDepth 100000 in
set_option maxHeartbeats 4000000 in
theorem oX11_orderOn (X : Cx) (A : Wd → Prop) (a0 : Nat) (a1 : Int32) (a2 : Int32) (w : Wd)
    (hv : wK w a0 = 12 ∧ Ct X bX11_placesOn mX11_placesOn [vR a0, vI a1, vI a2] w (qV fun w1 => wK w1 a0 = 12 ∧ ∀ w5 : Wd, w5 = sI w1 11 58 a0 0 → jX11_orderOn_13 X A a0 a1 a2 0 w5)) :
    Ct X bX11_orderOn mX11_orderOn [vR a0, vI a1, vI a2] w (qV A) := by
  refine Ct.of (lv := [(0, vR a0), (1, vI a1), (2, vI a2)]) rfl (Nat.le_of_ble_eq_true rfl) rfl ?_
  refine e_aload_n (pc := 0) (i := 0) dX11_orderOn_0 rfl rfl ?_
  refine e_iload_n (pc := 1) (i := 1) dX11_orderOn_1 rfl rfl ?_
  refine e_iload_n (pc := 2) (i := 2) dX11_orderOn_2 rfl rfl ?_
  have k3 := hv.1
  replace hv := hv.2
  refine e_callVv (pc := 3) (ci := 11) (st := []) (rc' := 0) (rs' := 0) (B' := bX11_placesOn) [vI a1, vI a2] dX11_orderOn_3 vRX11_316 kX11_placesOn (by decide) rfl k3 rfl rfl (Nat.le_of_ble_eq_true rfl) ⟨Nat.le_of_ble_eq_true rfl, Nat.le_of_ble_eq_true rfl⟩ rfl rfl hv (fun w1 hv => ?_)
  refine e_aload_n (pc := 6) (i := 0) dX11_orderOn_6 rfl rfl ?_
  refine e_iconst (pc := 7) (v := 0) dX11_orderOn_7 (by decide) ?_
  have k4 := hv.1
  replace hv := hv.2
  obtain ⟨w5, hw5⟩ : ∃ w5 : Wd, w5 = sI w1 11 58 a0 0 := ⟨_, rfl⟩
  replace hv := hv w5 hw5
  refine e_putI (pc := 8) dX11_orderOn_8 fRX11_313 (Or.inl rfl) rfl k4 ?_
  rw [← hw5]
  refine e_iconst (pc := 11) (v := 0) dX11_orderOn_11 (by decide) ?_
  refine e_istore_n (pc := 12) (i := 3) (lv' := [(0, vR a0), (1, vI a1), (2, vI a2), (3, vI 0)]) dX11_orderOn_12 rfl (by decide) rfl ?_
  exact hv
