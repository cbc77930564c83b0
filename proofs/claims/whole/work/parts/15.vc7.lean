set_option maxRecDepth 100000 in
set_option maxHeartbeats 4000000 in
theorem oX7_init (X : Cx) (A : Wd → Prop) (a0 : Nat) (a1 : Nat) (a2 : Int64) (w : Wd)
    (hv : wK w a0 ≠ 0 ∧ wK w a0 = 8 ∧ ∀ w3 : Wd, w3 = sR w 7 0 a0 a1 → ∀ w5 : Wd, w5 = sJ w3 7 1 a0 a2 → A w5) :
    Ct X bX7_init mX7_init [vR a0, vR a1, vJ a2] w (qV A) := by
  refine Ct.of (lv := [(0, vR a0), (1, vR a1), (2, vJ a2)]) rfl (Nat.le_of_ble_eq_true rfl) rfl ?_
  refine e_aload_n (pc := 0) (i := 0) dX7_init_0 rfl rfl ?_
  have k1 := hv.1
  replace hv := hv.2
  refine e_objInit (pc := 1) dX7_init_1 (tb_a4 14 (by decide +kernel) rfl) k1 (Nat.le_of_ble_eq_true rfl) (Nat.le_of_ble_eq_true rfl) (Nat.le_of_ble_eq_true rfl) ?_
  refine e_aload_n (pc := 4) (i := 0) dX7_init_4 rfl rfl ?_
  refine e_aload_n (pc := 5) (i := 1) dX7_init_5 rfl rfl ?_
  have k2 := hv.1
  replace hv := hv.2
  obtain ⟨w3, hw3⟩ : ∃ w3 : Wd, w3 = sR w 7 0 a0 a1 := ⟨_, rfl⟩
  replace hv := hv w3 hw3
  refine e_putR (pc := 6) dX7_init_6 fRX7_9 (Or.inr ⟨rfl, rfl, rfl⟩) rfl k2 ?_
  rw [← hw3]
  refine e_aload_n (pc := 9) (i := 0) dX7_init_9 rfl rfl ?_
  refine e_lload_n (pc := 10) (i := 2) dX7_init_10 rfl rfl ?_
  have k4 : wK w3 a0 = 8 := (by rw [hw3]; exact k2)
  obtain ⟨w5, hw5⟩ : ∃ w5 : Wd, w5 = sJ w3 7 1 a0 a2 := ⟨_, rfl⟩
  replace hv := hv w5 hw5
  refine e_putJ (pc := 11) dX7_init_11 fRX7_15 (Or.inl rfl) rfl k4 ?_
  rw [← hw5]
  exact e_vreturn (pc := 14) dX7_init_14 rfl ⟨rfl, hv⟩
abbrev jX7_distribute_11 (X : Cx) (A : Wd → Prop) (l0 : Nat) (l1 : Nat) (w : Wd) : Prop := EJ X mX7_distribute (vw X bX7_distribute (qV A)) 0 0 11 [(0, vR l0), (1, vR l1)] [] w
abbrev jX7_distribute_54 (X : Cx) (A : Wd → Prop) (l0 : Nat) (l1 : Nat) (w : Wd) : Prop := EJ X mX7_distribute (vw X bX7_distribute (qV A)) 0 0 54 [(0, vR l0), (1, vR l1)] [] w
abbrev jX7_distribute_109 (X : Cx) (A : Wd → Prop) (l1 : Nat) (w : Wd) : Prop := EJ X mX7_distribute (vw X bX7_distribute (qV A)) 0 0 109 [(1, vR l1)] [] w
set_option maxRecDepth 100000 in
set_option maxHeartbeats 4000000 in
theorem tX7_distribute_109 (X : Cx) (A : Wd → Prop) (l1 : Nat) (w : Wd)
    (hv : ((l1 = 0) → A w) ∧ ((¬ l1 = 0) → wK w l1 = 10 ∧ (((wI w 9 14 l1) = (-1)) → jX7_distribute_109 X A (wR w 9 12 l1) w) ∧ ((¬ (wI w 9 14 l1) = (-1)) → Ct X bX7_tellShares mX7_tellShares [vR l1] w (qV fun w4 => wK w4 l1 = 10 ∧ jX7_distribute_109 X A (wR w4 9 12 l1) w4)))) :
    jX7_distribute_109 X A l1 w := by
  refine e_aload_n (pc := 109) (i := 1) dX7_distribute_109 rfl rfl ?_
  refine e_ifnull (pc := 110) (tgt := 133) dX7_distribute_110 (by decide) (fun h1 => ?_) (fun h1 => ?_)
  · replace hv := hv.1 h1
    exact e_vreturn (pc := 133) dX7_distribute_133 rfl ⟨rfl, hv⟩
  · replace hv := hv.2 h1
    refine e_aload_n (pc := 113) (i := 1) dX7_distribute_113 rfl rfl ?_
    have k2 := hv.1
    replace hv := hv.2
    refine e_getI (pc := 114) dX7_distribute_114 fRX7_31 rfl k2 ?_
    refine e_iconst (pc := 117) (v := (-1)) dX7_distribute_117 (by decide) ?_
    refine e_icmp_eq (pc := 118) (tgt := 125) dX7_distribute_118 (by decide) (fun h3 => ?_) (fun h3 => ?_)
    · replace hv := hv.1 h3
      refine e_aload_n (pc := 125) (i := 1) dX7_distribute_125 rfl rfl ?_
      refine e_getR (pc := 126) dX7_distribute_126 fRX7_41 rfl k2 ?_
      refine e_astore_n (pc := 129) (i := 1) (lv' := [(1, vR (wR w 9 12 l1))]) dX7_distribute_129 rfl (by decide) rfl ?_
      refine e_goto (pc := 130) (tgt := 109) dX7_distribute_130 (by decide) ?_
      exact hv
    · replace hv := hv.2 h3
      refine e_aload_n (pc := 121) (i := 1) dX7_distribute_121 rfl rfl ?_
      refine e_callSv (pc := 122) (st := []) (rc' := 0) (rs' := 0) (B' := bX7_tellShares) [vR l1] dX7_distribute_122 vRX7_71 kX7_tellShares rfl rfl (Nat.le_of_ble_eq_true rfl) ⟨Nat.le_of_ble_eq_true rfl, Nat.le_of_ble_eq_true rfl⟩ rfl rfl hv (fun w4 hv => ?_)
      refine e_aload_n (pc := 125) (i := 1) dX7_distribute_125 rfl rfl ?_
      have k6 := hv.1
      replace hv := hv.2
      refine e_getR (pc := 126) dX7_distribute_126 fRX7_41 rfl k6 ?_
      refine e_astore_n (pc := 129) (i := 1) (lv' := [(1, vR (wR w4 9 12 l1))]) dX7_distribute_129 rfl (by decide) rfl ?_
      refine e_goto (pc := 130) (tgt := 109) dX7_distribute_130 (by decide) ?_
      exact hv
set_option maxRecDepth 100000 in
set_option maxHeartbeats 4000000 in
theorem tX7_distribute_54 (X : Cx) (A : Wd → Prop) (l0 : Nat) (l1 : Nat) (w : Wd)
    (hv : ((l1 = 0) → wK w l0 = 8 ∧ wK w (wR w 7 0 l0) = 7 ∧ wK w (wR w 6 0 (wR w 7 0 l0)) = 4 ∧ jX7_distribute_109 X A (wR w 3 3 (wR w 6 0 (wR w 7 0 l0))) w) ∧ ((¬ l1 = 0) → wK w l0 = 8 ∧ wK w (wR w 7 0 l0) = 7 ∧ wK w l1 = 6 ∧ Ct X bX5_countsOn mX5_countsOn [vR l1, vR (wR w 6 0 (wR w 7 0 l0)), vI (wI w 6 1 (wR w 7 0 l0)), vR (wR w 6 2 (wR w 7 0 l0))] w (qI fun x8 w7 => ((x8 = 0) → wK w7 l1 = 6 ∧ jX7_distribute_54 X A l0 (wR w7 5 6 l1) w7) ∧ ((¬ x8 = 0) → Ct X bX7_giveWay mX7_giveWay [vR l1] w7 (qV fun w12 => wK w12 l1 = 6 ∧ jX7_distribute_54 X A l0 (wR w12 5 6 l1) w12))))) :
    jX7_distribute_54 X A l0 l1 w := by
  refine e_aload_n (pc := 54) (i := 1) dX7_distribute_54 rfl rfl ?_
  refine e_ifnull (pc := 55) (tgt := 98) dX7_distribute_55 (by decide) (fun h1 => ?_) (fun h1 => ?_)
  · replace hv := hv.1 h1
    refine e_aload_n (pc := 98) (i := 0) dX7_distribute_98 rfl rfl ?_
    have k2 := hv.1
    replace hv := hv.2
    refine e_getR (pc := 99) dX7_distribute_99 fRX7_9 rfl k2 ?_
    have k3 := hv.1
    replace hv := hv.2
    refine e_getR (pc := 102) dX7_distribute_102 fRX7_19 rfl k3 ?_
    have k4 := hv.1
    replace hv := hv.2
    refine e_getR (pc := 105) dX7_distribute_105 fRX7_25 rfl k4 ?_
    refine e_astore_n (pc := 108) (i := 1) (lv' := [(0, vR l0), (1, vR (wR w 3 3 (wR w 6 0 (wR w 7 0 l0))))]) dX7_distribute_108 rfl (by decide) rfl ?_
    exact EJ.drop [1] rfl hv
  · replace hv := hv.2 h1
    refine e_aload_n (pc := 58) (i := 1) dX7_distribute_58 rfl rfl ?_
    refine e_aload_n (pc := 59) (i := 0) dX7_distribute_59 rfl rfl ?_
    have k5 := hv.1
    replace hv := hv.2
    refine e_getR (pc := 60) dX7_distribute_60 fRX7_9 rfl k5 ?_
    have k6 := hv.1
    replace hv := hv.2
    refine e_getR (pc := 63) dX7_distribute_63 fRX7_19 rfl k6 ?_
    refine e_aload_n (pc := 66) (i := 0) dX7_distribute_66 rfl rfl ?_
    refine e_getR (pc := 67) dX7_distribute_67 fRX7_9 rfl k5 ?_
    refine e_getI (pc := 70) dX7_distribute_70 fRX7_52 rfl k6 ?_
    refine e_aload_n (pc := 73) (i := 0) dX7_distribute_73 rfl rfl ?_
    refine e_getR (pc := 74) dX7_distribute_74 fRX7_9 rfl k5 ?_
    refine e_getR (pc := 77) dX7_distribute_77 fRX7_55 rfl k6 ?_
    have k9 := hv.1
    replace hv := hv.2
    refine e_callVi (pc := 80) (ci := 5) (st := []) (rc' := 0) (rs' := 0) (B' := bX5_countsOn) [vR (wR w 6 0 (wR w 7 0 l0)), vI (wI w 6 1 (wR w 7 0 l0)), vR (wR w 6 2 (wR w 7 0 l0))] dX7_distribute_80 vRX7_59 kX5_countsOn (by decide) rfl k9 rfl rfl (Nat.le_of_ble_eq_true rfl) ⟨Nat.le_of_ble_eq_true rfl, Nat.le_of_ble_eq_true rfl⟩ rfl rfl hv (fun x8 w7 hv => ?_)
    refine e_if_eq (pc := 83) (tgt := 90) dX7_distribute_83 (by decide) (fun h10 => ?_) (fun h10 => ?_)
    · replace hv := hv.1 h10
      refine e_aload_n (pc := 90) (i := 1) dX7_distribute_90 rfl rfl ?_
      have k11 := hv.1
      replace hv := hv.2
      refine e_getR (pc := 91) dX7_distribute_91 fRX7_69 rfl k11 ?_
      refine e_astore_n (pc := 94) (i := 1) (lv' := [(0, vR l0), (1, vR (wR w7 5 6 l1))]) dX7_distribute_94 rfl (by decide) rfl ?_
      refine e_goto (pc := 95) (tgt := 54) dX7_distribute_95 (by decide) ?_
      exact hv
    · replace hv := hv.2 h10
      refine e_aload_n (pc := 86) (i := 1) dX7_distribute_86 rfl rfl ?_
      refine e_callSv (pc := 87) (st := []) (rc' := 0) (rs' := 0) (B' := bX7_giveWay) [vR l1] dX7_distribute_87 vRX7_65 kX7_giveWay rfl rfl (Nat.le_of_ble_eq_true rfl) ⟨Nat.le_of_ble_eq_true rfl, Nat.le_of_ble_eq_true rfl⟩ rfl rfl hv (fun w12 hv => ?_)
      refine e_aload_n (pc := 90) (i := 1) dX7_distribute_90 rfl rfl ?_
      have k14 := hv.1
      replace hv := hv.2
      refine e_getR (pc := 91) dX7_distribute_91 fRX7_69 rfl k14 ?_
      refine e_astore_n (pc := 94) (i := 1) (lv' := [(0, vR l0), (1, vR (wR w12 5 6 l1))]) dX7_distribute_94 rfl (by decide) rfl ?_
      refine e_goto (pc := 95) (tgt := 54) dX7_distribute_95 (by decide) ?_
      exact hv
set_option maxRecDepth 100000 in
set_option maxHeartbeats 4000000 in
theorem tX7_distribute_11 (X : Cx) (A : Wd → Prop) (l0 : Nat) (l1 : Nat) (w : Wd)
    (hv : ((l1 = 0) → wK w l0 = 8 ∧ Ct X bX7_payPlaces mX7_payPlaces [vR l0, vI 1] w (qV fun w2 => wK w2 l0 = 8 ∧ Ct X bX7_payPlaces mX7_payPlaces [vR l0, vI 0] w2 (qV fun w5 => wK w5 l0 = 8 ∧ wK w5 (wR w5 7 0 l0) = 7 ∧ jX7_distribute_54 X A l0 (wR w5 6 3 (wR w5 7 0 l0)) w5))) ∧ ((¬ l1 = 0) → wK w l1 = 10 ∧ (((wI w 9 14 l1) = (-1)) → jX7_distribute_11 X A l0 (wR w 9 12 l1) w) ∧ ((¬ (wI w 9 14 l1) = (-1)) → wK w l0 = 8 ∧ Ct X bX7_makeReady mX7_makeReady [vR l0, vR l1] w (qV fun w12 => wK w12 l1 = 10 ∧ jX7_distribute_11 X A l0 (wR w12 9 12 l1) w12)))) :
    jX7_distribute_11 X A l0 l1 w := by
  refine e_aload_n (pc := 11) (i := 1) dX7_distribute_11 rfl rfl ?_
  refine e_ifnull (pc := 12) (tgt := 36) dX7_distribute_12 (by decide) (fun h1 => ?_) (fun h1 => ?_)
  · replace hv := hv.1 h1
    refine e_aload_n (pc := 36) (i := 0) dX7_distribute_36 rfl rfl ?_
    refine e_iconst (pc := 37) (v := 1) dX7_distribute_37 (by decide) ?_
    have k4 := hv.1
    replace hv := hv.2
    refine e_callVv (pc := 38) (ci := 7) (st := []) (rc' := 0) (rs' := 0) (B' := bX7_payPlaces) [vI 1] dX7_distribute_38 vRX7_44 kX7_payPlaces (by decide) rfl k4 rfl rfl (Nat.le_of_ble_eq_true rfl) ⟨Nat.le_of_ble_eq_true rfl, Nat.le_of_ble_eq_true rfl⟩ rfl rfl hv (fun w2 hv => ?_)
    refine e_aload_n (pc := 41) (i := 0) dX7_distribute_41 rfl rfl ?_
    refine e_iconst (pc := 42) (v := 0) dX7_distribute_42 (by decide) ?_
    have k7 := hv.1
    replace hv := hv.2
    refine e_callVv (pc := 43) (ci := 7) (st := []) (rc' := 0) (rs' := 0) (B' := bX7_payPlaces) [vI 0] dX7_distribute_43 vRX7_44 kX7_payPlaces (by decide) rfl k7 rfl rfl (Nat.le_of_ble_eq_true rfl) ⟨Nat.le_of_ble_eq_true rfl, Nat.le_of_ble_eq_true rfl⟩ rfl rfl hv (fun w5 hv => ?_)
    refine e_aload_n (pc := 46) (i := 0) dX7_distribute_46 rfl rfl ?_
    have k8 := hv.1
    replace hv := hv.2
    refine e_getR (pc := 47) dX7_distribute_47 fRX7_9 rfl k8 ?_
    have k9 := hv.1
    replace hv := hv.2
    refine e_getR (pc := 50) dX7_distribute_50 fRX7_48 rfl k9 ?_
    refine e_astore_n (pc := 53) (i := 1) (lv' := [(0, vR l0), (1, vR (wR w5 6 3 (wR w5 7 0 l0)))]) dX7_distribute_53 rfl (by decide) rfl ?_
    exact hv
  · replace hv := hv.2 h1
    refine e_aload_n (pc := 15) (i := 1) dX7_distribute_15 rfl rfl ?_
    have k10 := hv.1
    replace hv := hv.2
    refine e_getI (pc := 16) dX7_distribute_16 fRX7_31 rfl k10 ?_
    refine e_iconst (pc := 19) (v := (-1)) dX7_distribute_19 (by decide) ?_
    refine e_icmp_eq (pc := 20) (tgt := 28) dX7_distribute_20 (by decide) (fun h11 => ?_) (fun h11 => ?_)
    · replace hv := hv.1 h11
      refine e_aload_n (pc := 28) (i := 1) dX7_distribute_28 rfl rfl ?_
      refine e_getR (pc := 29) dX7_distribute_29 fRX7_41 rfl k10 ?_
      refine e_astore_n (pc := 32) (i := 1) (lv' := [(0, vR l0), (1, vR (wR w 9 12 l1))]) dX7_distribute_32 rfl (by decide) rfl ?_
      refine e_goto (pc := 33) (tgt := 11) dX7_distribute_33 (by decide) ?_
      exact hv
    · replace hv := hv.2 h11
      refine e_aload_n (pc := 23) (i := 0) dX7_distribute_23 rfl rfl ?_
      refine e_aload_n (pc := 24) (i := 1) dX7_distribute_24 rfl rfl ?_
      have k14 := hv.1
      replace hv := hv.2
      refine e_callVv (pc := 25) (ci := 7) (st := []) (rc' := 0) (rs' := 0) (B' := bX7_makeReady) [vR l1] dX7_distribute_25 vRX7_37 kX7_makeReady (by decide) rfl k14 rfl rfl (Nat.le_of_ble_eq_true rfl) ⟨Nat.le_of_ble_eq_true rfl, Nat.le_of_ble_eq_true rfl⟩ rfl rfl hv (fun w12 hv => ?_)
      refine e_aload_n (pc := 28) (i := 1) dX7_distribute_28 rfl rfl ?_
      have k15 := hv.1
      replace hv := hv.2
      refine e_getR (pc := 29) dX7_distribute_29 fRX7_41 rfl k15 ?_
      refine e_astore_n (pc := 32) (i := 1) (lv' := [(0, vR l0), (1, vR (wR w12 9 12 l1))]) dX7_distribute_32 rfl (by decide) rfl ?_
      refine e_goto (pc := 33) (tgt := 11) dX7_distribute_33 (by decide) ?_
      exact hv
set_option maxRecDepth 100000 in
set_option maxHeartbeats 4000000 in
theorem oX7_distribute (X : Cx) (A : Wd → Prop) (a0 : Nat) (w : Wd)
    (hv : wK w a0 = 8 ∧ wK w (wR w 7 0 a0) = 7 ∧ wK w (wR w 6 0 (wR w 7 0 a0)) = 4 ∧ jX7_distribute_11 X A a0 (wR w 3 3 (wR w 6 0 (wR w 7 0 a0))) w) :
    Ct X bX7_distribute mX7_distribute [vR a0] w (qV A) := by
  refine Ct.of (lv := [(0, vR a0)]) rfl (Nat.le_of_ble_eq_true rfl) rfl ?_
  refine e_aload_n (pc := 0) (i := 0) dX7_distribute_0 rfl rfl ?_
  have k1 := hv.1
  replace hv := hv.2
  refine e_getR (pc := 1) dX7_distribute_1 fRX7_9 rfl k1 ?_
  have k2 := hv.1
  replace hv := hv.2
  refine e_getR (pc := 4) dX7_distribute_4 fRX7_19 rfl k2 ?_
  have k3 := hv.1
  replace hv := hv.2
  refine e_getR (pc := 7) dX7_distribute_7 fRX7_25 rfl k3 ?_
  refine e_astore_n (pc := 10) (i := 1) (lv' := [(0, vR a0), (1, vR (wR w 3 3 (wR w 6 0 (wR w 7 0 a0))))]) dX7_distribute_10 rfl (by decide) rfl ?_
  exact hv
abbrev jX7_makeReady_19 (X : Cx) (A : Wd → Prop) (l0 : Nat) (l2 : Nat) (w : Wd) : Prop := EJ X mX7_makeReady (vw X bX7_makeReady (qV A)) 0 0 19 [(0, vR l0), (2, vR l2)] [] w
set_option maxRecDepth 100000 in
set_option maxHeartbeats 4000000 in
theorem tX7_makeReady_19 (X : Cx) (A : Wd → Prop) (l0 : Nat) (l2 : Nat) (w : Wd)
    (hv : ((l2 = 0) → A w) ∧ ((¬ l2 = 0) → wK w l2 = 3 ∧ ∀ w3 : Wd, w3 = sJ w 2 10 l2 0 → wK w3 l0 = 8 ∧ wK w3 (wR w3 7 0 l0) = 7 ∧ Ct X bX2_isReleased mX2_isReleased [vR l2, vI (wI w3 6 1 (wR w3 7 0 l0)), vR (wR w3 6 2 (wR w3 7 0 l0))] w3 (qI fun x7 w6 => ((x7 = 0) → wK w6 l2 = 3 ∧ jX7_makeReady_19 X A l0 (wR w6 2 8 l2) w6) ∧ ((¬ x7 = 0) → wK w6 l2 = 3 ∧ ∀ w12 : Wd, w12 = sJ w6 2 9 l2 0 → jX7_makeReady_19 X A l0 (wR w12 2 8 l2) w12)))) :
    jX7_makeReady_19 X A l0 l2 w := by
  refine e_aload_n (pc := 19) (i := 2) dX7_makeReady_19 rfl rfl ?_
  refine e_ifnull (pc := 20) (tgt := 62) dX7_makeReady_20 (by decide) (fun h1 => ?_) (fun h1 => ?_)
  · replace hv := hv.1 h1
    exact e_vreturn (pc := 62) dX7_makeReady_62 rfl ⟨rfl, hv⟩
  · replace hv := hv.2 h1
    refine e_aload_n (pc := 23) (i := 2) dX7_makeReady_23 rfl rfl ?_
    refine e_lconst (pc := 24) (v := 0) dX7_makeReady_24 (by decide) ?_
    have k2 := hv.1
    replace hv := hv.2
    obtain ⟨w3, hw3⟩ : ∃ w3 : Wd, w3 = sJ w 2 10 l2 0 := ⟨_, rfl⟩
    replace hv := hv w3 hw3
    refine e_putJ (pc := 25) dX7_makeReady_25 fRX7_87 (Or.inl rfl) rfl k2 ?_
    rw [← hw3]
    refine e_aload_n (pc := 28) (i := 2) dX7_makeReady_28 rfl rfl ?_
    refine e_aload_n (pc := 29) (i := 0) dX7_makeReady_29 rfl rfl ?_
    have k4 := hv.1
    replace hv := hv.2
    refine e_getR (pc := 30) dX7_makeReady_30 fRX7_9 rfl k4 ?_
    have k5 := hv.1
    replace hv := hv.2
    refine e_getI (pc := 33) dX7_makeReady_33 fRX7_52 rfl k5 ?_
    refine e_aload_n (pc := 36) (i := 0) dX7_makeReady_36 rfl rfl ?_
    refine e_getR (pc := 37) dX7_makeReady_37 fRX7_9 rfl k4 ?_
    refine e_getR (pc := 40) dX7_makeReady_40 fRX7_55 rfl k5 ?_
    have k8 : wK w3 l2 = 3 := (by rw [hw3]; exact k2)
    refine e_callVi (pc := 43) (ci := 2) (st := []) (rc' := 0) (rs' := 0) (B' := bX2_isReleased) [vI (wI w3 6 1 (wR w3 7 0 l0)), vR (wR w3 6 2 (wR w3 7 0 l0))] dX7_makeReady_43 vRX7_92 kX2_isReleased (by decide) rfl k8 rfl rfl (Nat.le_of_ble_eq_true rfl) ⟨Nat.le_of_ble_eq_true rfl, Nat.le_of_ble_eq_true rfl⟩ rfl rfl hv (fun x7 w6 hv => ?_)
    refine e_if_eq (pc := 46) (tgt := 54) dX7_makeReady_46 (by decide) (fun h9 => ?_) (fun h9 => ?_)
    · replace hv := hv.1 h9
      refine e_aload_n (pc := 54) (i := 2) dX7_makeReady_54 rfl rfl ?_
      have k10 := hv.1
      replace hv := hv.2
      refine e_getR (pc := 55) dX7_makeReady_55 fRX7_99 rfl k10 ?_
      refine e_astore_n (pc := 58) (i := 2) (lv' := [(0, vR l0), (2, vR (wR w6 2 8 l2))]) dX7_makeReady_58 rfl (by decide) rfl ?_
      refine e_goto (pc := 59) (tgt := 19) dX7_makeReady_59 (by decide) ?_
      exact hv
    · replace hv := hv.2 h9
      refine e_aload_n (pc := 49) (i := 2) dX7_makeReady_49 rfl rfl ?_
      refine e_lconst (pc := 50) (v := 0) dX7_makeReady_50 (by decide) ?_
      have k11 := hv.1
      replace hv := hv.2
      obtain ⟨w12, hw12⟩ : ∃ w12 : Wd, w12 = sJ w6 2 9 l2 0 := ⟨_, rfl⟩
      replace hv := hv w12 hw12
      refine e_putJ (pc := 51) dX7_makeReady_51 fRX7_96 (Or.inl rfl) rfl k11 ?_
      rw [← hw12]
      refine e_aload_n (pc := 54) (i := 2) dX7_makeReady_54 rfl rfl ?_
      have k13 : wK w12 l2 = 3 := (by rw [hw12]; exact k11)
      refine e_getR (pc := 55) dX7_makeReady_55 fRX7_99 rfl k13 ?_
      refine e_astore_n (pc := 58) (i := 2) (lv' := [(0, vR l0), (2, vR (wR w12 2 8 l2))]) dX7_makeReady_58 rfl (by decide) rfl ?_
      refine e_goto (pc := 59) (tgt := 19) dX7_makeReady_59 (by decide) ?_
      exact hv
set_option maxRecDepth 100000 in
set_option maxHeartbeats 4000000 in
theorem oX7_makeReady (X : Cx) (A : Wd → Prop) (a0 : Nat) (a1 : Nat) (w : Wd)
    (hv : wK w a0 = 8 ∧ wK w (wR w 7 0 a0) = 7 ∧ wK w (wR w 6 2 (wR w 7 0 a0)) = 5 ∧ wK w a1 = 10 ∧ Ct X bX9_spreadDue mX9_spreadDue [vR a1, vI (wI w 4 0 (wR w 6 2 (wR w 7 0 a0)))] w (qV fun w4 => wK w4 a1 = 10 ∧ jX7_makeReady_19 X A a0 (wR w4 9 9 a1) w4)) :
    Ct X bX7_makeReady mX7_makeReady [vR a0, vR a1] w (qV A) := by
  refine Ct.of (lv := [(0, vR a0), (1, vR a1)]) rfl (Nat.le_of_ble_eq_true rfl) rfl ?_
  refine e_aload_n (pc := 0) (i := 1) dX7_makeReady_0 rfl rfl ?_
  refine e_aload_n (pc := 1) (i := 0) dX7_makeReady_1 rfl rfl ?_
  have k1 := hv.1
  replace hv := hv.2
  refine e_getR (pc := 2) dX7_makeReady_2 fRX7_9 rfl k1 ?_
  have k2 := hv.1
  replace hv := hv.2
  refine e_getR (pc := 5) dX7_makeReady_5 fRX7_55 rfl k2 ?_
  have k3 := hv.1
  replace hv := hv.2
  refine e_getI (pc := 8) dX7_makeReady_8 fRX7_74 rfl k3 ?_
  have k6 := hv.1
  replace hv := hv.2
  refine e_callVv (pc := 11) (ci := 9) (st := []) (rc' := 0) (rs' := 0) (B' := bX9_spreadDue) [vI (wI w 4 0 (wR w 6 2 (wR w 7 0 a0)))] dX7_makeReady_11 vRX7_79 kX9_spreadDue (by decide) rfl k6 rfl rfl (Nat.le_of_ble_eq_true rfl) ⟨Nat.le_of_ble_eq_true rfl, Nat.le_of_ble_eq_true rfl⟩ rfl rfl hv (fun w4 hv => ?_)
  refine e_aload_n (pc := 14) (i := 1) dX7_makeReady_14 rfl rfl ?_
  have k7 := hv.1
  replace hv := hv.2
  refine e_getR (pc := 15) dX7_makeReady_15 fRX7_83 rfl k7 ?_
  refine e_astore_n (pc := 18) (i := 2) (lv' := [(0, vR a0), (1, vR a1), (2, vR (wR w4 9 9 a1))]) dX7_makeReady_18 rfl (by decide) rfl ?_
  exact EJ.drop [0, 2] rfl hv
abbrev jX7_payPlaces_11 (X : Cx) (A : Wd → Prop) (l0 : Nat) (l1 : Int32) (l2 : Nat) (w : Wd) : Prop := EJ X mX7_payPlaces (vw X bX7_payPlaces (qV A)) 0 0 11 [(0, vR l0), (1, vI l1), (2, vR l2)] [] w
set_option maxRecDepth 100000 in
set_option maxHeartbeats 4000000 in
theorem tX7_payPlaces_11 (X : Cx) (A : Wd → Prop) (l0 : Nat) (l1 : Int32) (l2 : Nat) (w : Wd)
    (hv : ((l2 = 0) → A w) ∧ ((¬ l2 = 0) → wK w l0 = 8 ∧ wK w (wR w 7 0 l0) = 7 ∧ Ct X bX6_placedBy mX6_placedBy [vR (wR w 7 0 l0), vR l2, vI l1] w (qR fun x4 w3 => ((x4 = 0) → wK w3 l2 = 10 ∧ jX7_payPlaces_11 X A l0 l1 (wR w3 9 12 l2) w3) ∧ ((¬ x4 = 0) → wK w3 x4 = 10 ∧ (((wR w3 9 8 x4) = 0) → wK w3 l2 = 10 ∧ jX7_payPlaces_11 X A l0 l1 (wR w3 9 12 l2) w3) ∧ ((¬ (wR w3 9 8 x4) = 0) → ((¬ x4 = l2) → wK w3 l0 = 8 ∧ wK w3 l2 = 10 ∧ Ct X bX9_owedBelow mX9_owedBelow [vR l2, vR 0] w3 (qJ fun x14 w13 => wK w13 l0 = 8 ∧ wK w13 x4 = 10 ∧ Ct X bX7_get mX7_get [vR (wR w13 9 8 x4), vJ (if x14 < (wJ w3 7 1 l0) then x14 else (wJ w3 7 1 l0))] w13 (qJ fun x19 w18 => wK w18 l0 = 8 ∧ ∀ w21 : Wd, w21 = sJ w18 7 1 l0 ((wJ w13 7 1 l0) - x19) → wK w21 l2 = 10 ∧ jX7_payPlaces_11 X A l0 l1 (wR w21 9 12 l2) w21))) ∧ ((x4 = l2) → wK w3 l0 = 8 ∧ Ct X bX7_get mX7_get [vR (wR w3 9 8 x4), vJ (wJ w3 7 1 l0)] w3 (qJ fun x25 w24 => wK w24 l0 = 8 ∧ ∀ w27 : Wd, w27 = sJ w24 7 1 l0 ((wJ w3 7 1 l0) - x25) → wK w27 l2 = 10 ∧ jX7_payPlaces_11 X A l0 l1 (wR w27 9 12 l2) w27))))))) :
    jX7_payPlaces_11 X A l0 l1 l2 w := by
  refine e_aload_n (pc := 11) (i := 2) dX7_payPlaces_11 rfl rfl ?_
  refine e_ifnull (pc := 12) (tgt := 88) dX7_payPlaces_12 (by decide) (fun h1 => ?_) (fun h1 => ?_)
  · replace hv := hv.1 h1
    exact e_vreturn (pc := 88) dX7_payPlaces_88 rfl ⟨rfl, hv⟩
  · replace hv := hv.2 h1
    refine e_aload_n (pc := 15) (i := 0) dX7_payPlaces_15 rfl rfl ?_
    have k2 := hv.1
    replace hv := hv.2
    refine e_getR (pc := 16) dX7_payPlaces_16 fRX7_9 rfl k2 ?_
    refine e_aload_n (pc := 19) (i := 2) dX7_payPlaces_19 rfl rfl ?_
    refine e_iload_n (pc := 20) (i := 1) dX7_payPlaces_20 rfl rfl ?_
    have k5 := hv.1
    replace hv := hv.2
    refine e_callVr (pc := 21) (ci := 6) (st := []) (rc' := 0) (rs' := 0) (B' := bX6_placedBy) [vR l2, vI l1] dX7_payPlaces_21 vRX7_102 kX6_placedBy (by decide) rfl k5 rfl rfl (Nat.le_of_ble_eq_true rfl) ⟨Nat.le_of_ble_eq_true rfl, Nat.le_of_ble_eq_true rfl⟩ rfl rfl hv (fun x4 w3 hv => ?_)
    refine e_astore_n (pc := 24) (i := 3) (lv' := [(0, vR l0), (1, vI l1), (2, vR l2), (3, vR x4)]) dX7_payPlaces_24 rfl (by decide) rfl ?_
    refine e_aload_n (pc := 25) (i := 3) dX7_payPlaces_25 rfl rfl ?_
    refine e_ifnull (pc := 26) (tgt := 80) dX7_payPlaces_26 (by decide) (fun h6 => ?_) (fun h6 => ?_)
    · replace hv := hv.1 h6
      refine e_aload_n (pc := 80) (i := 2) dX7_payPlaces_80 rfl rfl ?_
      have k7 := hv.1
      replace hv := hv.2
      refine e_getR (pc := 81) dX7_payPlaces_81 fRX7_41 rfl k7 ?_
      refine e_astore_n (pc := 84) (i := 2) (lv' := [(0, vR l0), (1, vI l1), (2, vR (wR w3 9 12 l2)), (3, vR x4)]) dX7_payPlaces_84 rfl (by decide) rfl ?_
      refine e_goto (pc := 85) (tgt := 11) dX7_payPlaces_85 (by decide) ?_
      exact EJ.drop [0, 1, 2] rfl hv
    · replace hv := hv.2 h6
      refine e_aload_n (pc := 29) (i := 3) dX7_payPlaces_29 rfl rfl ?_
      have k8 := hv.1
      replace hv := hv.2
      refine e_getR (pc := 30) dX7_payPlaces_30 fRX7_106 rfl k8 ?_
      refine e_ifnull (pc := 33) (tgt := 80) dX7_payPlaces_33 (by decide) (fun h9 => ?_) (fun h9 => ?_)
      · replace hv := hv.1 h9
        refine e_aload_n (pc := 80) (i := 2) dX7_payPlaces_80 rfl rfl ?_
        have k10 := hv.1
        replace hv := hv.2
        refine e_getR (pc := 81) dX7_payPlaces_81 fRX7_41 rfl k10 ?_
        refine e_astore_n (pc := 84) (i := 2) (lv' := [(0, vR l0), (1, vI l1), (2, vR (wR w3 9 12 l2)), (3, vR x4)]) dX7_payPlaces_84 rfl (by decide) rfl ?_
        refine e_goto (pc := 85) (tgt := 11) dX7_payPlaces_85 (by decide) ?_
        exact EJ.drop [0, 1, 2] rfl hv
      · replace hv := hv.2 h9
        refine e_aload_n (pc := 36) (i := 3) dX7_payPlaces_36 rfl rfl ?_
        refine e_aload_n (pc := 37) (i := 2) dX7_payPlaces_37 rfl rfl ?_
        refine e_acmp_ne (pc := 38) (tgt := 48) dX7_payPlaces_38 (by decide) (fun h11 => ?_) (fun h11 => ?_)
        · replace hv := hv.1 h11
          refine e_aload_n (pc := 48) (i := 0) dX7_payPlaces_48 rfl rfl ?_
          have k12 := hv.1
          replace hv := hv.2
          refine e_getJ (pc := 49) dX7_payPlaces_49 fRX7_15 rfl k12 ?_
          refine e_aload_n (pc := 52) (i := 2) dX7_payPlaces_52 rfl rfl ?_
          refine e_null (pc := 53) dX7_payPlaces_53 ?_
          have k15 := hv.1
          replace hv := hv.2
          refine e_callVj (pc := 54) (ci := 9) (st := [vJ (wJ w3 7 1 l0)]) (rc' := 0) (rs' := 0) (B' := bX9_owedBelow) [vR 0] dX7_payPlaces_54 vRX7_109 kX9_owedBelow (by decide) rfl k15 rfl rfl (Nat.le_of_ble_eq_true rfl) ⟨Nat.le_of_ble_eq_true rfl, Nat.le_of_ble_eq_true rfl⟩ rfl rfl hv (fun x14 w13 hv => ?_)
          refine e_mminJ (pc := 57) dX7_payPlaces_57 (tb_a4 64 (by decide +kernel) rfl) (Nat.le_of_ble_eq_true rfl) (Nat.le_of_ble_eq_true rfl) ?_
          refine e_lstore (pc := 60) (i := 4) (lv' := [(0, vR l0), (1, vI l1), (2, vR l2), (3, vR x4), (4, vJ (if x14 < (wJ w3 7 1 l0) then x14 else (wJ w3 7 1 l0)))]) dX7_payPlaces_60 (by decide) rfl ?_
          refine e_aload_n (pc := 62) (i := 0) dX7_payPlaces_62 rfl rfl ?_
          refine e_dup (pc := 63) dX7_payPlaces_63 rfl ?_
          have k16 := hv.1
          replace hv := hv.2
          refine e_getJ (pc := 64) dX7_payPlaces_64 fRX7_15 rfl k16 ?_
          refine e_aload_n (pc := 67) (i := 3) dX7_payPlaces_67 rfl rfl ?_
          have k17 := hv.1
          replace hv := hv.2
          refine e_getR (pc := 68) dX7_payPlaces_68 fRX7_106 rfl k17 ?_
          refine e_lload (pc := 71) (i := 4) dX7_payPlaces_71 rfl ?_
          refine e_callSj (pc := 73) (st := [vJ (wJ w13 7 1 l0), vR l0]) (rc' := 0) (rs' := 0) (B' := bX7_get) [vR (wR w13 9 8 x4), vJ (if x14 < (wJ w3 7 1 l0) then x14 else (wJ w3 7 1 l0))] dX7_payPlaces_73 vRX7_119 kX7_get rfl rfl (Nat.le_of_ble_eq_true rfl) ⟨Nat.le_of_ble_eq_true rfl, Nat.le_of_ble_eq_true rfl⟩ rfl rfl hv (fun x19 w18 hv => ?_)
          refine e_lsub (pc := 76) dX7_payPlaces_76 ?_
          have k20 := hv.1
          replace hv := hv.2
          obtain ⟨w21, hw21⟩ : ∃ w21 : Wd, w21 = sJ w18 7 1 l0 ((wJ w13 7 1 l0) - x19) := ⟨_, rfl⟩
          replace hv := hv w21 hw21
          refine e_putJ (pc := 77) dX7_payPlaces_77 fRX7_15 (Or.inl rfl) rfl k20 ?_
          rw [← hw21]
          refine e_aload_n (pc := 80) (i := 2) dX7_payPlaces_80 rfl rfl ?_
          have k22 := hv.1
          replace hv := hv.2
          refine e_getR (pc := 81) dX7_payPlaces_81 fRX7_41 rfl k22 ?_
          refine e_astore_n (pc := 84) (i := 2) (lv' := [(0, vR l0), (1, vI l1), (2, vR (wR w21 9 12 l2)), (3, vR x4), (4, vJ (if x14 < (wJ w3 7 1 l0) then x14 else (wJ w3 7 1 l0)))]) dX7_payPlaces_84 rfl (by decide) rfl ?_
          refine e_goto (pc := 85) (tgt := 11) dX7_payPlaces_85 (by decide) ?_
          exact EJ.drop [0, 1, 2] rfl hv
        · replace hv := hv.2 h11
          refine e_aload_n (pc := 41) (i := 0) dX7_payPlaces_41 rfl rfl ?_
          have k23 := hv.1
          replace hv := hv.2
          refine e_getJ (pc := 42) dX7_payPlaces_42 fRX7_15 rfl k23 ?_
          refine e_goto (pc := 45) (tgt := 60) dX7_payPlaces_45 (by decide) ?_
          refine e_lstore (pc := 60) (i := 4) (lv' := [(0, vR l0), (1, vI l1), (2, vR l2), (3, vR x4), (4, vJ (wJ w3 7 1 l0))]) dX7_payPlaces_60 (by decide) rfl ?_
          refine e_aload_n (pc := 62) (i := 0) dX7_payPlaces_62 rfl rfl ?_
          refine e_dup (pc := 63) dX7_payPlaces_63 rfl ?_
          refine e_getJ (pc := 64) dX7_payPlaces_64 fRX7_15 rfl k23 ?_
          refine e_aload_n (pc := 67) (i := 3) dX7_payPlaces_67 rfl rfl ?_
          refine e_getR (pc := 68) dX7_payPlaces_68 fRX7_106 rfl k8 ?_
          refine e_lload (pc := 71) (i := 4) dX7_payPlaces_71 rfl ?_
          refine e_callSj (pc := 73) (st := [vJ (wJ w3 7 1 l0), vR l0]) (rc' := 0) (rs' := 0) (B' := bX7_get) [vR (wR w3 9 8 x4), vJ (wJ w3 7 1 l0)] dX7_payPlaces_73 vRX7_119 kX7_get rfl rfl (Nat.le_of_ble_eq_true rfl) ⟨Nat.le_of_ble_eq_true rfl, Nat.le_of_ble_eq_true rfl⟩ rfl rfl hv (fun x25 w24 hv => ?_)
          refine e_lsub (pc := 76) dX7_payPlaces_76 ?_
          have k26 := hv.1
          replace hv := hv.2
          obtain ⟨w27, hw27⟩ : ∃ w27 : Wd, w27 = sJ w24 7 1 l0 ((wJ w3 7 1 l0) - x25) := ⟨_, rfl⟩
          replace hv := hv w27 hw27
          refine e_putJ (pc := 77) dX7_payPlaces_77 fRX7_15 (Or.inl rfl) rfl k26 ?_
          rw [← hw27]
          refine e_aload_n (pc := 80) (i := 2) dX7_payPlaces_80 rfl rfl ?_
          have k28 := hv.1
          replace hv := hv.2
          refine e_getR (pc := 81) dX7_payPlaces_81 fRX7_41 rfl k28 ?_
          refine e_astore_n (pc := 84) (i := 2) (lv' := [(0, vR l0), (1, vI l1), (2, vR (wR w27 9 12 l2)), (3, vR x4), (4, vJ (wJ w3 7 1 l0))]) dX7_payPlaces_84 rfl (by decide) rfl ?_
          refine e_goto (pc := 85) (tgt := 11) dX7_payPlaces_85 (by decide) ?_
          exact EJ.drop [0, 1, 2] rfl hv
set_option maxRecDepth 100000 in
set_option maxHeartbeats 4000000 in
theorem oX7_payPlaces (X : Cx) (A : Wd → Prop) (a0 : Nat) (a1 : Int32) (w : Wd)
    (hv : wK w a0 = 8 ∧ wK w (wR w 7 0 a0) = 7 ∧ wK w (wR w 6 0 (wR w 7 0 a0)) = 4 ∧ jX7_payPlaces_11 X A a0 a1 (wR w 3 3 (wR w 6 0 (wR w 7 0 a0))) w) :
    Ct X bX7_payPlaces mX7_payPlaces [vR a0, vI a1] w (qV A) := by
  refine Ct.of (lv := [(0, vR a0), (1, vI a1)]) rfl (Nat.le_of_ble_eq_true rfl) rfl ?_
  refine e_aload_n (pc := 0) (i := 0) dX7_payPlaces_0 rfl rfl ?_
  have k1 := hv.1
  replace hv := hv.2
  refine e_getR (pc := 1) dX7_payPlaces_1 fRX7_9 rfl k1 ?_
  have k2 := hv.1
  replace hv := hv.2
  refine e_getR (pc := 4) dX7_payPlaces_4 fRX7_19 rfl k2 ?_
  have k3 := hv.1
  replace hv := hv.2
  refine e_getR (pc := 7) dX7_payPlaces_7 fRX7_25 rfl k3 ?_
  refine e_astore_n (pc := 10) (i := 2) (lv' := [(0, vR a0), (1, vI a1), (2, vR (wR w 3 3 (wR w 6 0 (wR w 7 0 a0))))]) dX7_payPlaces_10 rfl (by decide) rfl ?_
  exact hv
set_option maxRecDepth 100000 in
set_option maxHeartbeats 4000000 in
theorem oX7_giveWay (X : Cx) (A : Wd → Prop) (a0 : Nat) (w : Wd)
    (hv : wK w a0 = 6 ∧ wK w (wR w 5 2 a0) = 3 ∧ wK w (wR w 2 1 (wR w 5 2 a0)) = 10 ∧ Ct X bX9_leafDueBelow mX9_leafDueBelow [vR (wR w 2 1 (wR w 5 2 a0)), vR (wR w 5 2 a0)] w (qJ fun x4 w3 => wK w3 a0 = 6 ∧ Ct X bX7_hasBelow mX7_hasBelow [vR (wR w3 5 1 a0)] w3 (qJ fun x8 w7 => wK w7 a0 = 6 ∧ Ct X bX7_hasBelow mX7_hasBelow [vR (wR w7 5 2 a0)] w7 (qJ fun x11 w10 => wK w10 a0 = 6 ∧ Ct X bX7_give mX7_give [vR (wR w10 5 1 a0), vJ (if (if x4 < x8 then x4 else x8) < (wJ w3 5 3 a0) then (if x4 < x8 then x4 else x8) else (wJ w3 5 3 a0))] w10 (qV fun w13 => wK w13 a0 = 6 ∧ Ct X bX7_give mX7_give [vR (wR w13 5 2 a0), vJ (if x11 < (if (if x4 < x8 then x4 else x8) < (wJ w3 5 3 a0) then (if x4 < x8 then x4 else x8) else (wJ w3 5 3 a0)) then x11 else (if (if x4 < x8 then x4 else x8) < (wJ w3 5 3 a0) then (if x4 < x8 then x4 else x8) else (wJ w3 5 3 a0)))] w13 (qV fun w16 => wK w16 a0 = 6 ∧ Ct X bX7_get mX7_get [vR (wR w16 5 2 a0), vJ (if (if x4 < x8 then x4 else x8) < (wJ w3 5 3 a0) then (if x4 < x8 then x4 else x8) else (wJ w3 5 3 a0))] w16 (qJ fun x20 w19 => wK w19 a0 = 6 ∧ Ct X bX7_get mX7_get [vR (wR w19 5 1 a0), vJ (if x11 < (if (if x4 < x8 then x4 else x8) < (wJ w3 5 3 a0) then (if x4 < x8 then x4 else x8) else (wJ w3 5 3 a0)) then x11 else (if (if x4 < x8 then x4 else x8) < (wJ w3 5 3 a0) then (if x4 < x8 then x4 else x8) else (wJ w3 5 3 a0)))] w19 (qJ fun x23 w22 => A w22)))))))) :
    Ct X bX7_giveWay mX7_giveWay [vR a0] w (qV A) := by
  refine Ct.of (lv := [(0, vR a0)]) rfl (Nat.le_of_ble_eq_true rfl) rfl ?_
  refine e_aload_n (pc := 0) (i := 0) dX7_giveWay_0 rfl rfl ?_
  have k1 := hv.1
  replace hv := hv.2
  refine e_getR (pc := 1) dX7_giveWay_1 fRX7_123 rfl k1 ?_
  have k2 := hv.1
  replace hv := hv.2
  refine e_getR (pc := 4) dX7_giveWay_4 fRX7_126 rfl k2 ?_
  refine e_aload_n (pc := 7) (i := 0) dX7_giveWay_7 rfl rfl ?_
  refine e_getR (pc := 8) dX7_giveWay_8 fRX7_123 rfl k1 ?_
  have k5 := hv.1
  replace hv := hv.2
  refine e_callVj (pc := 11) (ci := 9) (st := []) (rc' := 0) (rs' := 0) (B' := bX9_leafDueBelow) [vR (wR w 5 2 a0)] dX7_giveWay_11 vRX7_129 kX9_leafDueBelow (by decide) rfl k5 rfl rfl (Nat.le_of_ble_eq_true rfl) ⟨Nat.le_of_ble_eq_true rfl, Nat.le_of_ble_eq_true rfl⟩ rfl rfl hv (fun x4 w3 hv => ?_)
  refine e_lstore_n (pc := 14) (i := 1) (lv' := [(0, vR a0), (1, vJ x4)]) dX7_giveWay_14 rfl (by decide) rfl ?_
  refine e_aload_n (pc := 15) (i := 0) dX7_giveWay_15 rfl rfl ?_
  have k6 := hv.1
  replace hv := hv.2
  refine e_getJ (pc := 16) dX7_giveWay_16 fRX7_132 rfl k6 ?_
  refine e_aload_n (pc := 19) (i := 0) dX7_giveWay_19 rfl rfl ?_
  refine e_getR (pc := 20) dX7_giveWay_20 fRX7_135 rfl k6 ?_
  refine e_callSj (pc := 23) (st := [vJ (wJ w3 5 3 a0)]) (rc' := 0) (rs' := 0) (B' := bX7_hasBelow) [vR (wR w3 5 1 a0)] dX7_giveWay_23 vRX7_138 kX7_hasBelow rfl rfl (Nat.le_of_ble_eq_true rfl) ⟨Nat.le_of_ble_eq_true rfl, Nat.le_of_ble_eq_true rfl⟩ rfl rfl hv (fun x8 w7 hv => ?_)
  refine e_lload_n (pc := 26) (i := 1) dX7_giveWay_26 rfl rfl ?_
  refine e_mminJ (pc := 27) dX7_giveWay_27 (tb_a4 64 (by decide +kernel) rfl) (Nat.le_of_ble_eq_true rfl) (Nat.le_of_ble_eq_true rfl) ?_
  refine e_mminJ (pc := 30) dX7_giveWay_30 (tb_a4 64 (by decide +kernel) rfl) (Nat.le_of_ble_eq_true rfl) (Nat.le_of_ble_eq_true rfl) ?_
  refine e_lstore_n (pc := 33) (i := 3) (lv' := [(0, vR a0), (1, vJ x4), (3, vJ (if (if x4 < x8 then x4 else x8) < (wJ w3 5 3 a0) then (if x4 < x8 then x4 else x8) else (wJ w3 5 3 a0)))]) dX7_giveWay_33 rfl (by decide) rfl ?_
  refine e_lload_n (pc := 34) (i := 3) dX7_giveWay_34 rfl rfl ?_
  refine e_aload_n (pc := 35) (i := 0) dX7_giveWay_35 rfl rfl ?_
  have k9 := hv.1
  replace hv := hv.2
  refine e_getR (pc := 36) dX7_giveWay_36 fRX7_123 rfl k9 ?_
  refine e_callSj (pc := 39) (st := [vJ (if (if x4 < x8 then x4 else x8) < (wJ w3 5 3 a0) then (if x4 < x8 then x4 else x8) else (wJ w3 5 3 a0))]) (rc' := 0) (rs' := 0) (B' := bX7_hasBelow) [vR (wR w7 5 2 a0)] dX7_giveWay_39 vRX7_138 kX7_hasBelow rfl rfl (Nat.le_of_ble_eq_true rfl) ⟨Nat.le_of_ble_eq_true rfl, Nat.le_of_ble_eq_true rfl⟩ rfl rfl hv (fun x11 w10 hv => ?_)
  refine e_mminJ (pc := 42) dX7_giveWay_42 (tb_a4 64 (by decide +kernel) rfl) (Nat.le_of_ble_eq_true rfl) (Nat.le_of_ble_eq_true rfl) ?_
  refine e_lstore (pc := 45) (i := 5) (lv' := [(0, vR a0), (1, vJ x4), (3, vJ (if (if x4 < x8 then x4 else x8) < (wJ w3 5 3 a0) then (if x4 < x8 then x4 else x8) else (wJ w3 5 3 a0))), (5, vJ (if x11 < (if (if x4 < x8 then x4 else x8) < (wJ w3 5 3 a0) then (if x4 < x8 then x4 else x8) else (wJ w3 5 3 a0)) then x11 else (if (if x4 < x8 then x4 else x8) < (wJ w3 5 3 a0) then (if x4 < x8 then x4 else x8) else (wJ w3 5 3 a0))))]) dX7_giveWay_45 (by decide) rfl ?_
  refine e_aload_n (pc := 47) (i := 0) dX7_giveWay_47 rfl rfl ?_
  have k12 := hv.1
  replace hv := hv.2
  refine e_getR (pc := 48) dX7_giveWay_48 fRX7_135 rfl k12 ?_
  refine e_lload_n (pc := 51) (i := 3) dX7_giveWay_51 rfl rfl ?_
  refine e_callSv (pc := 52) (st := []) (rc' := 0) (rs' := 0) (B' := bX7_give) [vR (wR w10 5 1 a0), vJ (if (if x4 < x8 then x4 else x8) < (wJ w3 5 3 a0) then (if x4 < x8 then x4 else x8) else (wJ w3 5 3 a0))] dX7_giveWay_52 vRX7_141 kX7_give rfl rfl (Nat.le_of_ble_eq_true rfl) ⟨Nat.le_of_ble_eq_true rfl, Nat.le_of_ble_eq_true rfl⟩ rfl rfl hv (fun w13 hv => ?_)
  refine e_aload_n (pc := 55) (i := 0) dX7_giveWay_55 rfl rfl ?_
  have k15 := hv.1
  replace hv := hv.2
  refine e_getR (pc := 56) dX7_giveWay_56 fRX7_123 rfl k15 ?_
  refine e_lload (pc := 59) (i := 5) dX7_giveWay_59 rfl ?_
  refine e_callSv (pc := 61) (st := []) (rc' := 0) (rs' := 0) (B' := bX7_give) [vR (wR w13 5 2 a0), vJ (if x11 < (if (if x4 < x8 then x4 else x8) < (wJ w3 5 3 a0) then (if x4 < x8 then x4 else x8) else (wJ w3 5 3 a0)) then x11 else (if (if x4 < x8 then x4 else x8) < (wJ w3 5 3 a0) then (if x4 < x8 then x4 else x8) else (wJ w3 5 3 a0)))] dX7_giveWay_61 vRX7_141 kX7_give rfl rfl (Nat.le_of_ble_eq_true rfl) ⟨Nat.le_of_ble_eq_true rfl, Nat.le_of_ble_eq_true rfl⟩ rfl rfl hv (fun w16 hv => ?_)
  refine e_aload_n (pc := 64) (i := 0) dX7_giveWay_64 rfl rfl ?_
  have k18 := hv.1
  replace hv := hv.2
  refine e_getR (pc := 65) dX7_giveWay_65 fRX7_123 rfl k18 ?_
  refine e_lload_n (pc := 68) (i := 3) dX7_giveWay_68 rfl rfl ?_
  refine e_callSj (pc := 69) (st := []) (rc' := 0) (rs' := 0) (B' := bX7_get) [vR (wR w16 5 2 a0), vJ (if (if x4 < x8 then x4 else x8) < (wJ w3 5 3 a0) then (if x4 < x8 then x4 else x8) else (wJ w3 5 3 a0))] dX7_giveWay_69 vRX7_119 kX7_get rfl rfl (Nat.le_of_ble_eq_true rfl) ⟨Nat.le_of_ble_eq_true rfl, Nat.le_of_ble_eq_true rfl⟩ rfl rfl hv (fun x20 w19 hv => ?_)
  refine e_pop2_2 (pc := 72) dX7_giveWay_72 rfl ?_
  refine e_aload_n (pc := 73) (i := 0) dX7_giveWay_73 rfl rfl ?_
  have k21 := hv.1
  replace hv := hv.2
  refine e_getR (pc := 74) dX7_giveWay_74 fRX7_135 rfl k21 ?_
  refine e_lload (pc := 77) (i := 5) dX7_giveWay_77 rfl ?_
  refine e_callSj (pc := 79) (st := []) (rc' := 0) (rs' := 0) (B' := bX7_get) [vR (wR w19 5 1 a0), vJ (if x11 < (if (if x4 < x8 then x4 else x8) < (wJ w3 5 3 a0) then (if x4 < x8 then x4 else x8) else (wJ w3 5 3 a0)) then x11 else (if (if x4 < x8 then x4 else x8) < (wJ w3 5 3 a0) then (if x4 < x8 then x4 else x8) else (wJ w3 5 3 a0)))] dX7_giveWay_79 vRX7_119 kX7_get rfl rfl (Nat.le_of_ble_eq_true rfl) ⟨Nat.le_of_ble_eq_true rfl, Nat.le_of_ble_eq_true rfl⟩ rfl rfl hv (fun x23 w22 hv => ?_)
  refine e_pop2_2 (pc := 82) dX7_giveWay_82 rfl ?_
  exact e_vreturn (pc := 83) dX7_giveWay_83 rfl ⟨rfl, hv⟩
abbrev jX7_hasBelow_10 (X : Cx) (A : Int64 → Wd → Prop) (l0 : Nat) (l1 : Int64) (l3 : Nat) (w : Wd) : Prop := EJ X mX7_hasBelow (vw X bX7_hasBelow (qJ A)) 0 0 10 [(0, vR l0), (1, vJ l1), (3, vR l3)] [] w
set_option maxRecDepth 100000 in
set_option maxHeartbeats 4000000 in
theorem tX7_hasBelow_10 (X : Cx) (A : Int64 → Wd → Prop) (l0 : Nat) (l1 : Int64) (l3 : Nat) (w : Wd)
    (hv : ((l3 = 0) → A l1 w) ∧ ((¬ l3 = 0) → wK w l3 = 3 ∧ Ct X bX2_isBelow mX2_isBelow [vR l3, vR l0] w (qI fun x3 w2 => ((x3 = 0) → wK w2 l3 = 3 ∧ jX7_hasBelow_10 X A l0 l1 (wR w2 2 8 l3) w2) ∧ ((¬ x3 = 0) → wK w2 l3 = 3 ∧ jX7_hasBelow_10 X A l0 (l1 + (wJ w2 2 10 l3)) (wR w2 2 8 l3) w2)))) :
    jX7_hasBelow_10 X A l0 l1 l3 w := by
  refine e_aload_n (pc := 10) (i := 3) dX7_hasBelow_10 rfl rfl ?_
  refine e_ifnull (pc := 11) (tgt := 37) dX7_hasBelow_11 (by decide) (fun h1 => ?_) (fun h1 => ?_)
  · replace hv := hv.1 h1
    refine e_lload_n (pc := 37) (i := 1) dX7_hasBelow_37 rfl rfl ?_
    exact e_lreturn (pc := 38) dX7_hasBelow_38 rfl ⟨_, rfl, hv⟩
  · replace hv := hv.2 h1
    refine e_aload_n (pc := 14) (i := 3) dX7_hasBelow_14 rfl rfl ?_
    refine e_aload_n (pc := 15) (i := 0) dX7_hasBelow_15 rfl rfl ?_
    have k4 := hv.1
    replace hv := hv.2
    refine e_callVi (pc := 16) (ci := 2) (st := []) (rc' := 0) (rs' := 0) (B' := bX2_isBelow) [vR l0] dX7_hasBelow_16 vRX7_145 kX2_isBelow (by decide) rfl k4 rfl rfl (Nat.le_of_ble_eq_true rfl) ⟨Nat.le_of_ble_eq_true rfl, Nat.le_of_ble_eq_true rfl⟩ rfl rfl hv (fun x3 w2 hv => ?_)
    refine e_if_eq (pc := 19) (tgt := 29) dX7_hasBelow_19 (by decide) (fun h5 => ?_) (fun h5 => ?_)
    · replace hv := hv.1 h5
      refine e_aload_n (pc := 29) (i := 3) dX7_hasBelow_29 rfl rfl ?_
      have k6 := hv.1
      replace hv := hv.2
      refine e_getR (pc := 30) dX7_hasBelow_30 fRX7_99 rfl k6 ?_
      refine e_astore_n (pc := 33) (i := 3) (lv' := [(0, vR l0), (1, vJ l1), (3, vR (wR w2 2 8 l3))]) dX7_hasBelow_33 rfl (by decide) rfl ?_
      refine e_goto (pc := 34) (tgt := 10) dX7_hasBelow_34 (by decide) ?_
      exact hv
    · replace hv := hv.2 h5
      refine e_lload_n (pc := 22) (i := 1) dX7_hasBelow_22 rfl rfl ?_
      refine e_aload_n (pc := 23) (i := 3) dX7_hasBelow_23 rfl rfl ?_
      have k7 := hv.1
      replace hv := hv.2
      refine e_getJ (pc := 24) dX7_hasBelow_24 fRX7_87 rfl k7 ?_
      refine e_ladd (pc := 27) dX7_hasBelow_27 ?_
      refine e_lstore_n (pc := 28) (i := 1) (lv' := [(0, vR l0), (1, vJ (l1 + (wJ w2 2 10 l3))), (3, vR l3)]) dX7_hasBelow_28 rfl (by decide) rfl ?_
      refine e_aload_n (pc := 29) (i := 3) dX7_hasBelow_29 rfl rfl ?_
      refine e_getR (pc := 30) dX7_hasBelow_30 fRX7_99 rfl k7 ?_
      refine e_astore_n (pc := 33) (i := 3) (lv' := [(0, vR l0), (1, vJ (l1 + (wJ w2 2 10 l3))), (3, vR (wR w2 2 8 l3))]) dX7_hasBelow_33 rfl (by decide) rfl ?_
      refine e_goto (pc := 34) (tgt := 10) dX7_hasBelow_34 (by decide) ?_
      exact hv
set_option maxRecDepth 100000 in
set_option maxHeartbeats 4000000 in
theorem oX7_hasBelow (X : Cx) (A : Int64 → Wd → Prop) (a0 : Nat) (w : Wd)
    (hv : wK w a0 = 3 ∧ wK w (wR w 2 1 a0) = 10 ∧ jX7_hasBelow_10 X A a0 0 (wR w 9 9 (wR w 2 1 a0)) w) :
    Ct X bX7_hasBelow mX7_hasBelow [vR a0] w (qJ A) := by
  refine Ct.of (lv := [(0, vR a0)]) rfl (Nat.le_of_ble_eq_true rfl) rfl ?_
  refine e_lconst (pc := 0) (v := 0) dX7_hasBelow_0 (by decide) ?_
  refine e_lstore_n (pc := 1) (i := 1) (lv' := [(0, vR a0), (1, vJ 0)]) dX7_hasBelow_1 rfl (by decide) rfl ?_
  refine e_aload_n (pc := 2) (i := 0) dX7_hasBelow_2 rfl rfl ?_
  have k1 := hv.1
  replace hv := hv.2
  refine e_getR (pc := 3) dX7_hasBelow_3 fRX7_126 rfl k1 ?_
  have k2 := hv.1
  replace hv := hv.2
  refine e_getR (pc := 6) dX7_hasBelow_6 fRX7_83 rfl k2 ?_
  refine e_astore_n (pc := 9) (i := 3) (lv' := [(0, vR a0), (1, vJ 0), (3, vR (wR w 9 9 (wR w 2 1 a0)))]) dX7_hasBelow_9 rfl (by decide) rfl ?_
  exact hv
abbrev jX7_give_11 (X : Cx) (A : Wd → Prop) (l0 : Nat) (l3 : Int64) (l5 : Nat) (w : Wd) : Prop := EJ X mX7_give (vw X bX7_give (qV A)) 0 0 11 [(0, vR l0), (3, vJ l3), (5, vR l5)] [] w
set_option maxRecDepth 100000 in
set_option maxHeartbeats 4000000 in
theorem tX7_give_11 (X : Cx) (A : Wd → Prop) (l0 : Nat) (l3 : Int64) (l5 : Nat) (w : Wd)
    (hv : ((l5 = 0) → A w) ∧ ((¬ l5 = 0) → wK w l5 = 3 ∧ Ct X bX2_isBelow mX2_isBelow [vR l5, vR l0] w (qI fun x3 w2 => ((x3 = 0) → wK w2 l5 = 3 ∧ jX7_give_11 X A l0 l3 (wR w2 2 7 l5) w2) ∧ ((¬ x3 = 0) → wK w2 l5 = 3 ∧ ∀ w8 : Wd, w8 = sJ w2 2 10 l5 ((wJ w2 2 10 l5) - (if (wJ w2 2 10 l5) < l3 then (wJ w2 2 10 l5) else l3)) → jX7_give_11 X A l0 (l3 - (if (wJ w2 2 10 l5) < l3 then (wJ w2 2 10 l5) else l3)) (wR w8 2 7 l5) w8)))) :
    jX7_give_11 X A l0 l3 l5 w := by
  refine e_aload (pc := 11) (i := 5) dX7_give_11 rfl ?_
  refine e_ifnull (pc := 13) (tgt := 63) dX7_give_13 (by decide) (fun h1 => ?_) (fun h1 => ?_)
  · replace hv := hv.1 h1
    exact e_vreturn (pc := 63) dX7_give_63 rfl ⟨rfl, hv⟩
  · replace hv := hv.2 h1
    refine e_aload (pc := 16) (i := 5) dX7_give_16 rfl ?_
    refine e_aload_n (pc := 18) (i := 0) dX7_give_18 rfl rfl ?_
    have k4 := hv.1
    replace hv := hv.2
    refine e_callVi (pc := 19) (ci := 2) (st := []) (rc' := 0) (rs' := 0) (B' := bX2_isBelow) [vR l0] dX7_give_19 vRX7_145 kX2_isBelow (by decide) rfl k4 rfl rfl (Nat.le_of_ble_eq_true rfl) ⟨Nat.le_of_ble_eq_true rfl, Nat.le_of_ble_eq_true rfl⟩ rfl rfl hv (fun x3 w2 hv => ?_)
    refine e_if_eq (pc := 22) (tgt := 53) dX7_give_22 (by decide) (fun h5 => ?_) (fun h5 => ?_)
    · replace hv := hv.1 h5
      refine e_aload (pc := 53) (i := 5) dX7_give_53 rfl ?_
      have k6 := hv.1
      replace hv := hv.2
      refine e_getR (pc := 55) dX7_give_55 fRX7_152 rfl k6 ?_
      refine e_astore (pc := 58) (i := 5) (lv' := [(0, vR l0), (3, vJ l3), (5, vR (wR w2 2 7 l5))]) dX7_give_58 (by decide) rfl ?_
      refine e_goto (pc := 60) (tgt := 11) dX7_give_60 (by decide) ?_
      exact hv
    · replace hv := hv.2 h5
      refine e_lload_n (pc := 25) (i := 3) dX7_give_25 rfl rfl ?_
      refine e_aload (pc := 26) (i := 5) dX7_give_26 rfl ?_
      have k7 := hv.1
      replace hv := hv.2
      refine e_getJ (pc := 28) dX7_give_28 fRX7_87 rfl k7 ?_
      refine e_mminJ (pc := 31) dX7_give_31 (tb_a4 64 (by decide +kernel) rfl) (Nat.le_of_ble_eq_true rfl) (Nat.le_of_ble_eq_true rfl) ?_
      refine e_lstore (pc := 34) (i := 6) (lv' := [(0, vR l0), (3, vJ l3), (5, vR l5), (6, vJ (if (wJ w2 2 10 l5) < l3 then (wJ w2 2 10 l5) else l3))]) dX7_give_34 (by decide) rfl ?_
      refine e_aload (pc := 36) (i := 5) dX7_give_36 rfl ?_
      refine e_dup (pc := 38) dX7_give_38 rfl ?_
      refine e_getJ (pc := 39) dX7_give_39 fRX7_87 rfl k7 ?_
      refine e_lload (pc := 42) (i := 6) dX7_give_42 rfl ?_
      refine e_lsub (pc := 44) dX7_give_44 ?_
      obtain ⟨w8, hw8⟩ : ∃ w8 : Wd, w8 = sJ w2 2 10 l5 ((wJ w2 2 10 l5) - (if (wJ w2 2 10 l5) < l3 then (wJ w2 2 10 l5) else l3)) := ⟨_, rfl⟩
      replace hv := hv w8 hw8
      refine e_putJ (pc := 45) dX7_give_45 fRX7_87 (Or.inl rfl) rfl k7 ?_
      rw [← hw8]
      refine e_lload_n (pc := 48) (i := 3) dX7_give_48 rfl rfl ?_
      refine e_lload (pc := 49) (i := 6) dX7_give_49 rfl ?_
      refine e_lsub (pc := 51) dX7_give_51 ?_
      refine e_lstore_n (pc := 52) (i := 3) (lv' := [(0, vR l0), (3, vJ (l3 - (if (wJ w2 2 10 l5) < l3 then (wJ w2 2 10 l5) else l3))), (5, vR l5), (6, vJ (if (wJ w2 2 10 l5) < l3 then (wJ w2 2 10 l5) else l3))]) dX7_give_52 rfl (by decide) rfl ?_
      refine e_aload (pc := 53) (i := 5) dX7_give_53 rfl ?_
      have k9 : wK w8 l5 = 3 := (by rw [hw8]; exact k7)
      refine e_getR (pc := 55) dX7_give_55 fRX7_152 rfl k9 ?_
      refine e_astore (pc := 58) (i := 5) (lv' := [(0, vR l0), (3, vJ (l3 - (if (wJ w2 2 10 l5) < l3 then (wJ w2 2 10 l5) else l3))), (5, vR (wR w8 2 7 l5)), (6, vJ (if (wJ w2 2 10 l5) < l3 then (wJ w2 2 10 l5) else l3))]) dX7_give_58 (by decide) rfl ?_
      refine e_goto (pc := 60) (tgt := 11) dX7_give_60 (by decide) ?_
      exact EJ.drop [0, 3, 5] rfl hv
set_option maxRecDepth 100000 in
set_option maxHeartbeats 4000000 in
theorem oX7_give (X : Cx) (A : Wd → Prop) (a0 : Nat) (a1 : Int64) (w : Wd)
    (hv : wK w a0 = 3 ∧ wK w (wR w 2 1 a0) = 10 ∧ jX7_give_11 X A a0 a1 (wR w 9 10 (wR w 2 1 a0)) w) :
    Ct X bX7_give mX7_give [vR a0, vJ a1] w (qV A) := by
  refine Ct.of (lv := [(0, vR a0), (1, vJ a1)]) rfl (Nat.le_of_ble_eq_true rfl) rfl ?_
  refine e_lload_n (pc := 0) (i := 1) dX7_give_0 rfl rfl ?_
  refine e_lstore_n (pc := 1) (i := 3) (lv' := [(0, vR a0), (1, vJ a1), (3, vJ a1)]) dX7_give_1 rfl (by decide) rfl ?_
  refine e_aload_n (pc := 2) (i := 0) dX7_give_2 rfl rfl ?_
  have k1 := hv.1
  replace hv := hv.2
  refine e_getR (pc := 3) dX7_give_3 fRX7_126 rfl k1 ?_
  have k2 := hv.1
  replace hv := hv.2
  refine e_getR (pc := 6) dX7_give_6 fRX7_149 rfl k2 ?_
  refine e_astore (pc := 9) (i := 5) (lv' := [(0, vR a0), (1, vJ a1), (3, vJ a1), (5, vR (wR w 9 10 (wR w 2 1 a0)))]) dX7_give_9 (by decide) rfl ?_
  exact EJ.drop [0, 3, 5] rfl hv
abbrev jX7_get_11 (X : Cx) (A : Int64 → Wd → Prop) (l0 : Nat) (l1 : Int64) (l3 : Int64) (l5 : Nat) (w : Wd) : Prop := EJ X mX7_get (vw X bX7_get (qJ A)) 0 0 11 [(0, vR l0), (1, vJ l1), (3, vJ l3), (5, vR l5)] [] w
set_option maxRecDepth 100000 in
set_option maxHeartbeats 4000000 in
theorem tX7_get_11 (X : Cx) (A : Int64 → Wd → Prop) (l0 : Nat) (l1 : Int64) (l3 : Int64) (l5 : Nat) (w : Wd)
    (hv : ((l5 = 0) → A (l1 - l3) w) ∧ ((¬ l5 = 0) → wK w l5 = 3 ∧ Ct X bX2_isBelow mX2_isBelow [vR l5, vR l0] w (qI fun x3 w2 => ((x3 = 0) → wK w2 l5 = 3 ∧ jX7_get_11 X A l0 l1 l3 (wR w2 2 8 l5) w2) ∧ ((¬ x3 = 0) → wK w2 l5 = 3 ∧ ∀ w8 : Wd, w8 = sJ w2 2 10 l5 ((wJ w2 2 10 l5) + (if ((wJ w2 2 9 l5) - (wJ w2 2 10 l5)) < l3 then ((wJ w2 2 9 l5) - (wJ w2 2 10 l5)) else l3)) → jX7_get_11 X A l0 l1 (l3 - (if ((wJ w2 2 9 l5) - (wJ w2 2 10 l5)) < l3 then ((wJ w2 2 9 l5) - (wJ w2 2 10 l5)) else l3)) (wR w8 2 8 l5) w8)))) :
    jX7_get_11 X A l0 l1 l3 l5 w := by
  refine e_aload (pc := 11) (i := 5) dX7_get_11 rfl ?_
  refine e_ifnull (pc := 13) (tgt := 69) dX7_get_13 (by decide) (fun h1 => ?_) (fun h1 => ?_)
  · replace hv := hv.1 h1
    refine e_lload_n (pc := 69) (i := 1) dX7_get_69 rfl rfl ?_
    refine e_lload_n (pc := 70) (i := 3) dX7_get_70 rfl rfl ?_
    refine e_lsub (pc := 71) dX7_get_71 ?_
    exact e_lreturn (pc := 72) dX7_get_72 rfl ⟨_, rfl, hv⟩
  · replace hv := hv.2 h1
    refine e_aload (pc := 16) (i := 5) dX7_get_16 rfl ?_
    refine e_aload_n (pc := 18) (i := 0) dX7_get_18 rfl rfl ?_
    have k4 := hv.1
    replace hv := hv.2
    refine e_callVi (pc := 19) (ci := 2) (st := []) (rc' := 0) (rs' := 0) (B' := bX2_isBelow) [vR l0] dX7_get_19 vRX7_145 kX2_isBelow (by decide) rfl k4 rfl rfl (Nat.le_of_ble_eq_true rfl) ⟨Nat.le_of_ble_eq_true rfl, Nat.le_of_ble_eq_true rfl⟩ rfl rfl hv (fun x3 w2 hv => ?_)
    refine e_if_eq (pc := 22) (tgt := 59) dX7_get_22 (by decide) (fun h5 => ?_) (fun h5 => ?_)
    · replace hv := hv.1 h5
      refine e_aload (pc := 59) (i := 5) dX7_get_59 rfl ?_
      have k6 := hv.1
      replace hv := hv.2
      refine e_getR (pc := 61) dX7_get_61 fRX7_99 rfl k6 ?_
      refine e_astore (pc := 64) (i := 5) (lv' := [(0, vR l0), (1, vJ l1), (3, vJ l3), (5, vR (wR w2 2 8 l5))]) dX7_get_64 (by decide) rfl ?_
      refine e_goto (pc := 66) (tgt := 11) dX7_get_66 (by decide) ?_
      exact hv
    · replace hv := hv.2 h5
      refine e_lload_n (pc := 25) (i := 3) dX7_get_25 rfl rfl ?_
      refine e_aload (pc := 26) (i := 5) dX7_get_26 rfl ?_
      have k7 := hv.1
      replace hv := hv.2
      refine e_getJ (pc := 28) dX7_get_28 fRX7_96 rfl k7 ?_
      refine e_aload (pc := 31) (i := 5) dX7_get_31 rfl ?_
      refine e_getJ (pc := 33) dX7_get_33 fRX7_87 rfl k7 ?_
      refine e_lsub (pc := 36) dX7_get_36 ?_
      refine e_mminJ (pc := 37) dX7_get_37 (tb_a4 64 (by decide +kernel) rfl) (Nat.le_of_ble_eq_true rfl) (Nat.le_of_ble_eq_true rfl) ?_
      refine e_lstore (pc := 40) (i := 6) (lv' := [(0, vR l0), (1, vJ l1), (3, vJ l3), (5, vR l5), (6, vJ (if ((wJ w2 2 9 l5) - (wJ w2 2 10 l5)) < l3 then ((wJ w2 2 9 l5) - (wJ w2 2 10 l5)) else l3))]) dX7_get_40 (by decide) rfl ?_
      refine e_aload (pc := 42) (i := 5) dX7_get_42 rfl ?_
      refine e_dup (pc := 44) dX7_get_44 rfl ?_
      refine e_getJ (pc := 45) dX7_get_45 fRX7_87 rfl k7 ?_
      refine e_lload (pc := 48) (i := 6) dX7_get_48 rfl ?_
      refine e_ladd (pc := 50) dX7_get_50 ?_
      obtain ⟨w8, hw8⟩ : ∃ w8 : Wd, w8 = sJ w2 2 10 l5 ((wJ w2 2 10 l5) + (if ((wJ w2 2 9 l5) - (wJ w2 2 10 l5)) < l3 then ((wJ w2 2 9 l5) - (wJ w2 2 10 l5)) else l3)) := ⟨_, rfl⟩
      replace hv := hv w8 hw8
      refine e_putJ (pc := 51) dX7_get_51 fRX7_87 (Or.inl rfl) rfl k7 ?_
      rw [← hw8]
      refine e_lload_n (pc := 54) (i := 3) dX7_get_54 rfl rfl ?_
      refine e_lload (pc := 55) (i := 6) dX7_get_55 rfl ?_
      refine e_lsub (pc := 57) dX7_get_57 ?_
      refine e_lstore_n (pc := 58) (i := 3) (lv' := [(0, vR l0), (1, vJ l1), (3, vJ (l3 - (if ((wJ w2 2 9 l5) - (wJ w2 2 10 l5)) < l3 then ((wJ w2 2 9 l5) - (wJ w2 2 10 l5)) else l3))), (5, vR l5), (6, vJ (if ((wJ w2 2 9 l5) - (wJ w2 2 10 l5)) < l3 then ((wJ w2 2 9 l5) - (wJ w2 2 10 l5)) else l3))]) dX7_get_58 rfl (by decide) rfl ?_
      refine e_aload (pc := 59) (i := 5) dX7_get_59 rfl ?_
      have k9 : wK w8 l5 = 3 := (by rw [hw8]; exact k7)
      refine e_getR (pc := 61) dX7_get_61 fRX7_99 rfl k9 ?_
      refine e_astore (pc := 64) (i := 5) (lv' := [(0, vR l0), (1, vJ l1), (3, vJ (l3 - (if ((wJ w2 2 9 l5) - (wJ w2 2 10 l5)) < l3 then ((wJ w2 2 9 l5) - (wJ w2 2 10 l5)) else l3))), (5, vR (wR w8 2 8 l5)), (6, vJ (if ((wJ w2 2 9 l5) - (wJ w2 2 10 l5)) < l3 then ((wJ w2 2 9 l5) - (wJ w2 2 10 l5)) else l3))]) dX7_get_64 (by decide) rfl ?_
      refine e_goto (pc := 66) (tgt := 11) dX7_get_66 (by decide) ?_
      exact EJ.drop [0, 1, 3, 5] rfl hv
set_option maxRecDepth 100000 in
set_option maxHeartbeats 4000000 in
theorem oX7_get (X : Cx) (A : Int64 → Wd → Prop) (a0 : Nat) (a1 : Int64) (w : Wd)
    (hv : wK w a0 = 3 ∧ wK w (wR w 2 1 a0) = 10 ∧ jX7_get_11 X A a0 a1 a1 (wR w 9 9 (wR w 2 1 a0)) w) :
    Ct X bX7_get mX7_get [vR a0, vJ a1] w (qJ A) := by
  refine Ct.of (lv := [(0, vR a0), (1, vJ a1)]) rfl (Nat.le_of_ble_eq_true rfl) rfl ?_
  refine e_lload_n (pc := 0) (i := 1) dX7_get_0 rfl rfl ?_
  refine e_lstore_n (pc := 1) (i := 3) (lv' := [(0, vR a0), (1, vJ a1), (3, vJ a1)]) dX7_get_1 rfl (by decide) rfl ?_
  refine e_aload_n (pc := 2) (i := 0) dX7_get_2 rfl rfl ?_
  have k1 := hv.1
  replace hv := hv.2
  refine e_getR (pc := 3) dX7_get_3 fRX7_126 rfl k1 ?_
  have k2 := hv.1
  replace hv := hv.2
  refine e_getR (pc := 6) dX7_get_6 fRX7_83 rfl k2 ?_
  refine e_astore (pc := 9) (i := 5) (lv' := [(0, vR a0), (1, vJ a1), (3, vJ a1), (5, vR (wR w 9 9 (wR w 2 1 a0)))]) dX7_get_9 (by decide) rfl ?_
  exact hv
abbrev jX7_tellShares_5 (X : Cx) (A : Wd → Prop) (l1 : Nat) (w : Wd) : Prop := EJ X mX7_tellShares (vw X bX7_tellShares (qV A)) 0 0 5 [(1, vR l1)] [] w
abbrev jX7_tellShares_11 (X : Cx) (A : Wd → Prop) (l1 : Nat) (l2 : Nat) (w : Wd) : Prop := EJ X mX7_tellShares (vw X bX7_tellShares (qV A)) 0 0 11 [(1, vR l1), (2, vR l2)] [] w
set_option maxRecDepth 100000 in
set_option maxHeartbeats 4000000 in
theorem tX7_tellShares_11 (X : Cx) (A : Wd → Prop) (l1 : Nat) (l2 : Nat) (w : Wd)
    (hv : ((l2 = 0) → wK w l1 = 3 ∧ jX7_tellShares_5 X A (wR w 2 8 l1) w) ∧ ((¬ l2 = 0) → wK w l2 = 3 ∧ wK w l1 = 3 ∧ ∀ w5 : Wd, w5 = sJ w 2 11 l2 ((wJ w 2 11 l2) + (wJ w 2 10 l1)) → jX7_tellShares_11 X A l1 (wR w5 2 2 l2) w5)) :
    jX7_tellShares_11 X A l1 l2 w := by
  refine e_aload_n (pc := 11) (i := 2) dX7_tellShares_11 rfl rfl ?_
  refine e_ifnull (pc := 12) (tgt := 36) dX7_tellShares_12 (by decide) (fun h1 => ?_) (fun h1 => ?_)
  · replace hv := hv.1 h1
    refine e_aload_n (pc := 36) (i := 1) dX7_tellShares_36 rfl rfl ?_
    have k2 := hv.1
    replace hv := hv.2
    refine e_getR (pc := 37) dX7_tellShares_37 fRX7_99 rfl k2 ?_
    refine e_astore_n (pc := 40) (i := 1) (lv' := [(1, vR (wR w 2 8 l1)), (2, vR l2)]) dX7_tellShares_40 rfl (by decide) rfl ?_
    refine e_goto (pc := 41) (tgt := 5) dX7_tellShares_41 (by decide) ?_
    exact EJ.drop [1] rfl hv
  · replace hv := hv.2 h1
    refine e_aload_n (pc := 15) (i := 2) dX7_tellShares_15 rfl rfl ?_
    refine e_dup (pc := 16) dX7_tellShares_16 rfl ?_
    have k3 := hv.1
    replace hv := hv.2
    refine e_getJ (pc := 17) dX7_tellShares_17 fRX7_155 rfl k3 ?_
    refine e_aload_n (pc := 20) (i := 1) dX7_tellShares_20 rfl rfl ?_
    have k4 := hv.1
    replace hv := hv.2
    refine e_getJ (pc := 21) dX7_tellShares_21 fRX7_87 rfl k4 ?_
    refine e_ladd (pc := 24) dX7_tellShares_24 ?_
    obtain ⟨w5, hw5⟩ : ∃ w5 : Wd, w5 = sJ w 2 11 l2 ((wJ w 2 11 l2) + (wJ w 2 10 l1)) := ⟨_, rfl⟩
    replace hv := hv w5 hw5
    refine e_putJ (pc := 25) dX7_tellShares_25 fRX7_155 (Or.inl rfl) rfl k3 ?_
    rw [← hw5]
    refine e_aload_n (pc := 28) (i := 2) dX7_tellShares_28 rfl rfl ?_
    have k6 : wK w5 l2 = 3 := (by rw [hw5]; exact k3)
    refine e_getR (pc := 29) dX7_tellShares_29 fRX7_158 rfl k6 ?_
    refine e_astore_n (pc := 32) (i := 2) (lv' := [(1, vR l1), (2, vR (wR w5 2 2 l2))]) dX7_tellShares_32 rfl (by decide) rfl ?_
    refine e_goto (pc := 33) (tgt := 11) dX7_tellShares_33 (by decide) ?_
    exact hv
set_option maxRecDepth 100000 in
set_option maxHeartbeats 4000000 in
theorem tX7_tellShares_5 (X : Cx) (A : Wd → Prop) (l1 : Nat) (w : Wd)
    (hv : ((l1 = 0) → A w) ∧ ((¬ l1 = 0) → jX7_tellShares_11 X A l1 l1 w)) :
    jX7_tellShares_5 X A l1 w := by
  refine e_aload_n (pc := 5) (i := 1) dX7_tellShares_5 rfl rfl ?_
  refine e_ifnull (pc := 6) (tgt := 44) dX7_tellShares_6 (by decide) (fun h1 => ?_) (fun h1 => ?_)
  · replace hv := hv.1 h1
    exact e_vreturn (pc := 44) dX7_tellShares_44 rfl ⟨rfl, hv⟩
  · replace hv := hv.2 h1
    refine e_aload_n (pc := 9) (i := 1) dX7_tellShares_9 rfl rfl ?_
    refine e_astore_n (pc := 10) (i := 2) (lv' := [(1, vR l1), (2, vR l1)]) dX7_tellShares_10 rfl (by decide) rfl ?_
    exact hv
set_option maxRecDepth 100000 in
set_option maxHeartbeats 4000000 in
theorem oX7_tellShares (X : Cx) (A : Wd → Prop) (a0 : Nat) (w : Wd)
    (hv : wK w a0 = 10 ∧ jX7_tellShares_5 X A (wR w 9 9 a0) w) :
    Ct X bX7_tellShares mX7_tellShares [vR a0] w (qV A) := by
  refine Ct.of (lv := [(0, vR a0)]) rfl (Nat.le_of_ble_eq_true rfl) rfl ?_
  refine e_aload_n (pc := 0) (i := 0) dX7_tellShares_0 rfl rfl ?_
  have k1 := hv.1
  replace hv := hv.2
  refine e_getR (pc := 1) dX7_tellShares_1 fRX7_83 rfl k1 ?_
  refine e_astore_n (pc := 4) (i := 1) (lv' := [(0, vR a0), (1, vR (wR w 9 9 a0))]) dX7_tellShares_4 rfl (by decide) rfl ?_
  exact EJ.drop [1] rfl hv
abbrev jX7_carryOut_39 (X : Cx) (A : Wd → Prop) (mc ms : Nat)  (rc rs : Nat) (l0 : Nat) (l1 : Nat) (l2 : Nat) (w : Wd) : Prop := EJ X mX7_carryOut (vw X (4, mc, ms) (qV A)) rc rs 39 [(0, vR l0), (1, vR l1), (2, vR l2)] [] w
set_option maxRecDepth 100000 in
set_option maxHeartbeats 4000000 in
theorem tX7_carryOut_39 (X : Cx) (A : Wd → Prop) (mc ms : Nat)  (rc rs : Nat) (l0 : Nat) (l1 : Nat) (l2 : Nat) (w : Wd)
    (hv : ((l2 = 0) → A w) ∧ ((¬ l2 = 0) → wK w l2 = 10 ∧ (((wI w 9 14 l2) = (-1)) → jX7_carryOut_39 X A mc ms rc rs l0 l1 (wR w 9 12 l2) w) ∧ ((¬ (wI w 9 14 l2) = (-1)) → ∃ mc7 ms8 rc4 rs5 : Nat, (rc = rc4 + mc7 ∧ rs = rs5 + ms8) ∧ wK w l0 = 8 ∧ Ct X (3, mc7, ms8) mX7_settleLeaves [vR l0, vR l2, vR l1] w (qV fun w9 => wK w9 l2 = 10 ∧ wK w9 l1 = 1 ∧ wK w9 (wR w9 9 3 l2) = 9 ∧ ∀ w15 : Wd, w15 = sI w9 8 3 (wR w9 9 3 l2) (wI w9 0 0 l1) → wK w15 (wR w15 9 3 l2) = 9 ∧ ∀ w18 : Wd, w18 = sI w15 8 7 (wR w15 9 3 l2) 1 → jX7_carryOut_39 X A mc ms rc4 rs5 l0 l1 (wR w18 9 12 l2) w18)))) :
    jX7_carryOut_39 X A mc ms rc rs l0 l1 l2 w := by
  refine e_aload_n (pc := 39) (i := 2) dX7_carryOut_39 rfl rfl ?_
  refine e_ifnull (pc := 40) (tgt := 84) dX7_carryOut_40 (by decide) (fun h1 => ?_) (fun h1 => ?_)
  · replace hv := hv.1 h1
    exact e_vreturn (pc := 84) dX7_carryOut_84 rfl ⟨rfl, hv⟩
  · replace hv := hv.2 h1
    refine e_aload_n (pc := 43) (i := 2) dX7_carryOut_43 rfl rfl ?_
    have k2 := hv.1
    replace hv := hv.2
    refine e_getI (pc := 44) dX7_carryOut_44 fRX7_31 rfl k2 ?_
    refine e_iconst (pc := 47) (v := (-1)) dX7_carryOut_47 (by decide) ?_
    refine e_icmp_eq (pc := 48) (tgt := 76) dX7_carryOut_48 (by decide) (fun h3 => ?_) (fun h3 => ?_)
    · replace hv := hv.1 h3
      refine e_aload_n (pc := 76) (i := 2) dX7_carryOut_76 rfl rfl ?_
      refine e_getR (pc := 77) dX7_carryOut_77 fRX7_41 rfl k2 ?_
      refine e_astore_n (pc := 80) (i := 2) (lv' := [(0, vR l0), (1, vR l1), (2, vR (wR w 9 12 l2))]) dX7_carryOut_80 rfl (by decide) rfl ?_
      refine e_goto (pc := 81) (tgt := 39) dX7_carryOut_81 (by decide) ?_
      exact hv
    · replace hv := hv.2 h3
      refine e_aload_n (pc := 51) (i := 0) dX7_carryOut_51 rfl rfl ?_
      refine e_aload_n (pc := 52) (i := 2) dX7_carryOut_52 rfl rfl ?_
      refine e_aload_n (pc := 53) (i := 1) dX7_carryOut_53 rfl rfl ?_
      obtain ⟨mc7, ms8, rc4, rs5, hr6, hv⟩ := hv
      have k11 := hv.1
      replace hv := hv.2
      refine e_callVv (pc := 54) (ci := 7) (st := []) (rc' := rc4) (rs' := rs5) (B' := (3, mc7, ms8)) [vR l2, vR l1] dX7_carryOut_54 vRX7_166 kX7_settleLeaves (by decide) rfl k11 rfl rfl (Nat.le_of_ble_eq_true rfl) ⟨Nat.le_of_ble_eq_true rfl, Nat.le_of_ble_eq_true rfl⟩ hr6.1 hr6.2 hv (fun w9 hv => ?_)
      refine e_aload_n (pc := 57) (i := 2) dX7_carryOut_57 rfl rfl ?_
      have k12 := hv.1
      replace hv := hv.2
      refine e_getR (pc := 58) dX7_carryOut_58 fRX7_170 rfl k12 ?_
      refine e_aload_n (pc := 61) (i := 1) dX7_carryOut_61 rfl rfl ?_
      have k13 := hv.1
      replace hv := hv.2
      refine e_getI (pc := 62) dX7_carryOut_62 fRX7_174 rfl k13 ?_
      have k14 := hv.1
      replace hv := hv.2
      obtain ⟨w15, hw15⟩ : ∃ w15 : Wd, w15 = sI w9 8 3 (wR w9 9 3 l2) (wI w9 0 0 l1) := ⟨_, rfl⟩
      replace hv := hv w15 hw15
      refine e_putI (pc := 65) dX7_carryOut_65 fRX7_177 (Or.inl rfl) rfl k14 ?_
      rw [← hw15]
      refine e_aload_n (pc := 68) (i := 2) dX7_carryOut_68 rfl rfl ?_
      have k16 : wK w15 l2 = 10 := (by rw [hw15]; exact k12)
      refine e_getR (pc := 69) dX7_carryOut_69 fRX7_170 rfl k16 ?_
      refine e_iconst (pc := 72) (v := 1) dX7_carryOut_72 (by decide) ?_
      have k17 := hv.1
      replace hv := hv.2
      obtain ⟨w18, hw18⟩ : ∃ w18 : Wd, w18 = sI w15 8 7 (wR w15 9 3 l2) 1 := ⟨_, rfl⟩
      replace hv := hv w18 hw18
      refine e_putZ (pc := 73) dX7_carryOut_73 fRX7_182 (Or.inl rfl) rfl k17 (Or.inr rfl) ?_
      rw [← hw18]
      refine e_aload_n (pc := 76) (i := 2) dX7_carryOut_76 rfl rfl ?_
      have k19 : wK w18 l2 = 10 := (by rw [hw18]; exact k16)
      refine e_getR (pc := 77) dX7_carryOut_77 fRX7_41 rfl k19 ?_
      refine e_astore_n (pc := 80) (i := 2) (lv' := [(0, vR l0), (1, vR l1), (2, vR (wR w18 9 12 l2))]) dX7_carryOut_80 rfl (by decide) rfl ?_
      refine e_goto (pc := 81) (tgt := 39) dX7_carryOut_81 (by decide) ?_
      exact hv
set_option maxRecDepth 100000 in
set_option maxHeartbeats 4000000 in
theorem oX7_carryOut (X : Cx) (A : Wd → Prop) (mc ms : Nat) (a0 : Nat) (w : Wd)
    (hv : ∃ rc3 rs4 : Nat, (mc = rc3 + 1 ∧ ms = rs4 + 2) ∧ ∀ q1 : Nat, wK w q1 = 0 → q1 ≠ 0 → ∀ w2 : Wd, w2 = nO w 0 q1 → wK w2 a0 = 8 ∧ wK w2 (wR w2 7 0 a0) = 7 ∧ wK w2 (wR w2 6 2 (wR w2 7 0 a0)) = 5 ∧ Ct X bX0_init mX0_init [vR q1, vI (wI w2 4 0 (wR w2 6 2 (wR w2 7 0 a0))), vI (wI w2 4 0 (wR w2 6 2 (wR w2 7 0 a0)))] w2 (qV fun w9 => wK w9 a0 = 8 ∧ wK w9 (wR w9 7 0 a0) = 7 ∧ wK w9 (wR w9 6 0 (wR w9 7 0 a0)) = 4 ∧ jX7_carryOut_39 X A mc ms rc3 rs4 a0 q1 (wR w9 3 3 (wR w9 6 0 (wR w9 7 0 a0))) w9)) :
    Ct X (4, mc, ms) mX7_carryOut [vR a0] w (qV A) := by
  refine Ct.of (lv := [(0, vR a0)]) rfl (Nat.le_of_ble_eq_true rfl) rfl ?_
  obtain ⟨rc3, rs4, hr5, hv⟩ := hv
  refine e_new (pc := 0) (ci := 0) (rc' := rc3) (rs' := rs4) dX7_carryOut_0 (by decide) (tb_a4 94 (by decide +kernel) rfl) dv0 hr5.1 hr5.2 (fun q1 hq1 nq1 => ?_)
  obtain ⟨w2, hw2⟩ : ∃ w2 : Wd, w2 = nO w 0 q1 := ⟨_, rfl⟩
  replace hv := hv q1 hq1 nq1 w2 hw2
  rw [← hw2]
  refine e_dup (pc := 3) dX7_carryOut_3 rfl ?_
  refine e_aload_n (pc := 4) (i := 0) dX7_carryOut_4 rfl rfl ?_
  have k6 := hv.1
  replace hv := hv.2
  refine e_getR (pc := 5) dX7_carryOut_5 fRX7_9 rfl k6 ?_
  have k7 := hv.1
  replace hv := hv.2
  refine e_getR (pc := 8) dX7_carryOut_8 fRX7_55 rfl k7 ?_
  have k8 := hv.1
  replace hv := hv.2
  refine e_getI (pc := 11) dX7_carryOut_11 fRX7_74 rfl k8 ?_
  refine e_aload_n (pc := 14) (i := 0) dX7_carryOut_14 rfl rfl ?_
  refine e_getR (pc := 15) dX7_carryOut_15 fRX7_9 rfl k6 ?_
  refine e_getR (pc := 18) dX7_carryOut_18 fRX7_55 rfl k7 ?_
  refine e_getI (pc := 21) dX7_carryOut_21 fRX7_74 rfl k8 ?_
  refine e_callIv (pc := 24) (st := [vR q1]) (rc' := rc3) (rs' := rs4) (B' := bX0_init) [vI (wI w2 4 0 (wR w2 6 2 (wR w2 7 0 a0))), vI (wI w2 4 0 (wR w2 6 2 (wR w2 7 0 a0)))] dX7_carryOut_24 vRX7_163 kX0_init rfl rfl (K_ne (by rw [hw2]; exact nO_new)) rfl rfl (Nat.le_of_ble_eq_true rfl) ⟨Nat.le_of_ble_eq_true rfl, Nat.le_of_ble_eq_true rfl⟩ rfl rfl hv (fun w9 hv => ?_)
  refine e_astore_n (pc := 27) (i := 1) (lv' := [(0, vR a0), (1, vR q1)]) dX7_carryOut_27 rfl (by decide) rfl ?_
  refine e_aload_n (pc := 28) (i := 0) dX7_carryOut_28 rfl rfl ?_
  have k11 := hv.1
  replace hv := hv.2
  refine e_getR (pc := 29) dX7_carryOut_29 fRX7_9 rfl k11 ?_
  have k12 := hv.1
  replace hv := hv.2
  refine e_getR (pc := 32) dX7_carryOut_32 fRX7_19 rfl k12 ?_
  have k13 := hv.1
  replace hv := hv.2
  refine e_getR (pc := 35) dX7_carryOut_35 fRX7_25 rfl k13 ?_
  refine e_astore_n (pc := 38) (i := 2) (lv' := [(0, vR a0), (1, vR q1), (2, vR (wR w9 3 3 (wR w9 6 0 (wR w9 7 0 a0))))]) dX7_carryOut_38 rfl (by decide) rfl ?_
  exact hv
abbrev jX7_settleLeaves_5 (X : Cx) (A : Wd → Prop) (mc ms : Nat)  (rc rs : Nat) (l0 : Nat) (l1 : Nat) (l2 : Nat) (l3 : Nat) (w : Wd) : Prop := EJ X mX7_settleLeaves (vw X (3, mc, ms) (qV A)) rc rs 5 [(0, vR l0), (1, vR l1), (2, vR l2), (3, vR l3)] [] w
abbrev jX7_settleLeaves_57 (X : Cx) (A : Wd → Prop) (mc ms : Nat)  (rc rs : Nat) (l0 : Nat) (l1 : Nat) (l2 : Nat) (l3 : Nat) (l4 : Int64) (s0 : Int32) (w : Wd) : Prop := EJ X mX7_settleLeaves (vw X (3, mc, ms) (qV A)) rc rs 57 [(0, vR l0), (1, vR l1), (2, vR l2), (3, vR l3), (4, vJ l4)] [vI s0] w
set_option maxRecDepth 100000 in
set_option maxHeartbeats 4000000 in
theorem tX7_settleLeaves_57 (X : Cx) (A : Wd → Prop) (mc ms : Nat)  (rc rs : Nat) (l0 : Nat) (l1 : Nat) (l2 : Nat) (l3 : Nat) (l4 : Int64) (s0 : Int32) (w : Wd)
    (hv : ((s0 = 0) → wK w l3 = 3 ∧ ∀ w3 : Wd, w3 = sJ w 2 4 l3 (if (wJ w 2 4 l3) < l4 then (wJ w 2 4 l3) else l4) → wK w3 l0 = 8 ∧ wK w3 (wR w3 7 0 l0) = 7 ∧ ∃ rc6 rs7 : Nat, (rc = rc6 + 1 ∧ rs = rs7 + 60) ∧ Ct X bX2_recordRelease mX2_recordRelease [vR l3, vI (wI w3 6 1 (wR w3 7 0 l0)), vR l2] w3 (qV fun w9 => wK w9 l3 = 3 ∧ jX7_settleLeaves_5 X A mc ms rc6 rs7 l0 l1 l2 (wR w9 2 8 l3) w9)) ∧ ((¬ s0 = 0) → wK w l3 = 3 ∧ ∀ w14 : Wd, w14 = sJ w 2 4 l3 l4 → wK w14 l0 = 8 ∧ wK w14 (wR w14 7 0 l0) = 7 ∧ ∃ rc17 rs18 : Nat, (rc = rc17 + 1 ∧ rs = rs18 + 60) ∧ Ct X bX2_recordRelease mX2_recordRelease [vR l3, vI (wI w14 6 1 (wR w14 7 0 l0)), vR l2] w14 (qV fun w20 => wK w20 l3 = 3 ∧ jX7_settleLeaves_5 X A mc ms rc17 rs18 l0 l1 l2 (wR w20 2 8 l3) w20))) :
    jX7_settleLeaves_57 X A mc ms rc rs l0 l1 l2 l3 l4 s0 w := by
  refine e_istore (pc := 57) (i := 6) (lv' := [(0, vR l0), (1, vR l1), (2, vR l2), (3, vR l3), (4, vJ l4), (6, vI s0)]) dX7_settleLeaves_57 (by decide) rfl ?_
  refine e_aload_n (pc := 59) (i := 3) dX7_settleLeaves_59 rfl rfl ?_
  refine e_iload (pc := 60) (i := 6) dX7_settleLeaves_60 rfl ?_
  refine e_if_eq (pc := 62) (tgt := 70) dX7_settleLeaves_62 (by decide) (fun h1 => ?_) (fun h1 => ?_)
  · replace hv := hv.1 h1
    refine e_lload (pc := 70) (i := 4) dX7_settleLeaves_70 rfl ?_
    refine e_aload_n (pc := 72) (i := 3) dX7_settleLeaves_72 rfl rfl ?_
    have k2 := hv.1
    replace hv := hv.2
    refine e_getJ (pc := 73) dX7_settleLeaves_73 fRX7_189 rfl k2 ?_
    refine e_mminJ (pc := 76) dX7_settleLeaves_76 (tb_a4 64 (by decide +kernel) rfl) (Nat.le_of_ble_eq_true rfl) (Nat.le_of_ble_eq_true rfl) ?_
    obtain ⟨w3, hw3⟩ : ∃ w3 : Wd, w3 = sJ w 2 4 l3 (if (wJ w 2 4 l3) < l4 then (wJ w 2 4 l3) else l4) := ⟨_, rfl⟩
    replace hv := hv w3 hw3
    refine e_putJ (pc := 79) dX7_settleLeaves_79 fRX7_189 (Or.inl rfl) rfl k2 ?_
    rw [← hw3]
    refine e_aload_n (pc := 82) (i := 3) dX7_settleLeaves_82 rfl rfl ?_
    refine e_aload_n (pc := 83) (i := 0) dX7_settleLeaves_83 rfl rfl ?_
    have k4 := hv.1
    replace hv := hv.2
    refine e_getR (pc := 84) dX7_settleLeaves_84 fRX7_9 rfl k4 ?_
    have k5 := hv.1
    replace hv := hv.2
    refine e_getI (pc := 87) dX7_settleLeaves_87 fRX7_52 rfl k5 ?_
    refine e_aload_n (pc := 90) (i := 2) dX7_settleLeaves_90 rfl rfl ?_
    obtain ⟨rc6, rs7, hr8, hv⟩ := hv
    have k11 : wK w3 l3 = 3 := (by rw [hw3]; exact k2)
    refine e_callVv (pc := 91) (ci := 2) (st := []) (rc' := rc6) (rs' := rs7) (B' := bX2_recordRelease) [vI (wI w3 6 1 (wR w3 7 0 l0)), vR l2] dX7_settleLeaves_91 vRX7_192 kX2_recordRelease (by decide) rfl k11 rfl rfl (Nat.le_of_ble_eq_true rfl) ⟨Nat.le_of_ble_eq_true rfl, Nat.le_of_ble_eq_true rfl⟩ hr8.1 hr8.2 hv (fun w9 hv => ?_)
    refine e_aload_n (pc := 94) (i := 3) dX7_settleLeaves_94 rfl rfl ?_
    have k12 := hv.1
    replace hv := hv.2
    refine e_getR (pc := 95) dX7_settleLeaves_95 fRX7_99 rfl k12 ?_
    refine e_astore_n (pc := 98) (i := 3) (lv' := [(0, vR l0), (1, vR l1), (2, vR l2), (3, vR (wR w9 2 8 l3)), (4, vJ l4), (6, vI s0)]) dX7_settleLeaves_98 rfl (by decide) rfl ?_
    refine e_goto (pc := 99) (tgt := 5) dX7_settleLeaves_99 (by decide) ?_
    exact EJ.drop [0, 1, 2, 3] rfl hv
  · replace hv := hv.2 h1
    refine e_lload (pc := 65) (i := 4) dX7_settleLeaves_65 rfl ?_
    refine e_goto (pc := 67) (tgt := 79) dX7_settleLeaves_67 (by decide) ?_
    have k13 := hv.1
    replace hv := hv.2
    obtain ⟨w14, hw14⟩ : ∃ w14 : Wd, w14 = sJ w 2 4 l3 l4 := ⟨_, rfl⟩
    replace hv := hv w14 hw14
    refine e_putJ (pc := 79) dX7_settleLeaves_79 fRX7_189 (Or.inl rfl) rfl k13 ?_
    rw [← hw14]
    refine e_aload_n (pc := 82) (i := 3) dX7_settleLeaves_82 rfl rfl ?_
    refine e_aload_n (pc := 83) (i := 0) dX7_settleLeaves_83 rfl rfl ?_
    have k15 := hv.1
    replace hv := hv.2
    refine e_getR (pc := 84) dX7_settleLeaves_84 fRX7_9 rfl k15 ?_
    have k16 := hv.1
    replace hv := hv.2
    refine e_getI (pc := 87) dX7_settleLeaves_87 fRX7_52 rfl k16 ?_
    refine e_aload_n (pc := 90) (i := 2) dX7_settleLeaves_90 rfl rfl ?_
    obtain ⟨rc17, rs18, hr19, hv⟩ := hv
    have k22 : wK w14 l3 = 3 := (by rw [hw14]; exact k13)
    refine e_callVv (pc := 91) (ci := 2) (st := []) (rc' := rc17) (rs' := rs18) (B' := bX2_recordRelease) [vI (wI w14 6 1 (wR w14 7 0 l0)), vR l2] dX7_settleLeaves_91 vRX7_192 kX2_recordRelease (by decide) rfl k22 rfl rfl (Nat.le_of_ble_eq_true rfl) ⟨Nat.le_of_ble_eq_true rfl, Nat.le_of_ble_eq_true rfl⟩ hr19.1 hr19.2 hv (fun w20 hv => ?_)
    refine e_aload_n (pc := 94) (i := 3) dX7_settleLeaves_94 rfl rfl ?_
    have k23 := hv.1
    replace hv := hv.2
    refine e_getR (pc := 95) dX7_settleLeaves_95 fRX7_99 rfl k23 ?_
    refine e_astore_n (pc := 98) (i := 3) (lv' := [(0, vR l0), (1, vR l1), (2, vR l2), (3, vR (wR w20 2 8 l3)), (4, vJ l4), (6, vI s0)]) dX7_settleLeaves_98 rfl (by decide) rfl ?_
    refine e_goto (pc := 99) (tgt := 5) dX7_settleLeaves_99 (by decide) ?_
    exact EJ.drop [0, 1, 2, 3] rfl hv
set_option maxRecDepth 100000 in
set_option maxHeartbeats 4000000 in
theorem tX7_settleLeaves_5 (X : Cx) (A : Wd → Prop) (mc ms : Nat)  (rc rs : Nat) (l0 : Nat) (l1 : Nat) (l2 : Nat) (l3 : Nat) (w : Wd)
    (hv : ((l3 = 0) → A w) ∧ ((¬ l3 = 0) → wK w l0 = 8 ∧ wK w (wR w 7 0 l0) = 7 ∧ wK w l3 = 3 ∧ Ct X bX2_isReleased mX2_isReleased [vR l3, vI (wI w 6 1 (wR w 7 0 l0)), vR (wR w 6 2 (wR w 7 0 l0))] w (qI fun x5 w4 => ((¬ x5 = 0) → wK w4 l3 = 3 ∧ jX7_settleLeaves_5 X A mc ms rc rs l0 l1 l2 (wR w4 2 8 l3) w4) ∧ ((x5 = 0) → wK w4 l3 = 3 ∧ wK w4 l1 = 10 ∧ wK w4 (wR w4 9 3 l1) = 9 ∧ ((¬ (wI w4 8 0 (wR w4 9 3 l1)) = 4) → jX7_settleLeaves_57 X A mc ms rc rs l0 l1 l2 l3 ((wJ w4 2 9 l3) - (wJ w4 2 10 l3)) 0 w4) ∧ (((wI w4 8 0 (wR w4 9 3 l1)) = 4) → jX7_settleLeaves_57 X A mc ms rc rs l0 l1 l2 l3 ((wJ w4 2 9 l3) - (wJ w4 2 10 l3)) 1 w4))))) :
    jX7_settleLeaves_5 X A mc ms rc rs l0 l1 l2 l3 w := by
  refine e_aload_n (pc := 5) (i := 3) dX7_settleLeaves_5 rfl rfl ?_
  refine e_ifnull (pc := 6) (tgt := 102) dX7_settleLeaves_6 (by decide) (fun h1 => ?_) (fun h1 => ?_)
  · replace hv := hv.1 h1
    exact e_vreturn (pc := 102) dX7_settleLeaves_102 rfl ⟨rfl, hv⟩
  · replace hv := hv.2 h1
    refine e_aload_n (pc := 9) (i := 3) dX7_settleLeaves_9 rfl rfl ?_
    refine e_aload_n (pc := 10) (i := 0) dX7_settleLeaves_10 rfl rfl ?_
    have k2 := hv.1
    replace hv := hv.2
    refine e_getR (pc := 11) dX7_settleLeaves_11 fRX7_9 rfl k2 ?_
    have k3 := hv.1
    replace hv := hv.2
    refine e_getI (pc := 14) dX7_settleLeaves_14 fRX7_52 rfl k3 ?_
    refine e_aload_n (pc := 17) (i := 0) dX7_settleLeaves_17 rfl rfl ?_
    refine e_getR (pc := 18) dX7_settleLeaves_18 fRX7_9 rfl k2 ?_
    refine e_getR (pc := 21) dX7_settleLeaves_21 fRX7_55 rfl k3 ?_
    have k6 := hv.1
    replace hv := hv.2
    refine e_callVi (pc := 24) (ci := 2) (st := []) (rc' := rc) (rs' := rs) (B' := bX2_isReleased) [vI (wI w 6 1 (wR w 7 0 l0)), vR (wR w 6 2 (wR w 7 0 l0))] dX7_settleLeaves_24 vRX7_92 kX2_isReleased (by decide) rfl k6 rfl rfl (Nat.le_of_ble_eq_true rfl) ⟨Nat.le_of_ble_eq_true rfl, Nat.le_of_ble_eq_true rfl⟩ rfl rfl hv (fun x5 w4 hv => ?_)
    refine e_if_ne (pc := 27) (tgt := 94) dX7_settleLeaves_27 (by decide) (fun h7 => ?_) (fun h7 => ?_)
    · replace hv := hv.1 h7
      refine e_aload_n (pc := 94) (i := 3) dX7_settleLeaves_94 rfl rfl ?_
      have k8 := hv.1
      replace hv := hv.2
      refine e_getR (pc := 95) dX7_settleLeaves_95 fRX7_99 rfl k8 ?_
      refine e_astore_n (pc := 98) (i := 3) (lv' := [(0, vR l0), (1, vR l1), (2, vR l2), (3, vR (wR w4 2 8 l3))]) dX7_settleLeaves_98 rfl (by decide) rfl ?_
      refine e_goto (pc := 99) (tgt := 5) dX7_settleLeaves_99 (by decide) ?_
      exact hv
    · replace hv := hv.2 h7
      refine e_aload_n (pc := 30) (i := 3) dX7_settleLeaves_30 rfl rfl ?_
      have k9 := hv.1
      replace hv := hv.2
      refine e_getJ (pc := 31) dX7_settleLeaves_31 fRX7_96 rfl k9 ?_
      refine e_aload_n (pc := 34) (i := 3) dX7_settleLeaves_34 rfl rfl ?_
      refine e_getJ (pc := 35) dX7_settleLeaves_35 fRX7_87 rfl k9 ?_
      refine e_lsub (pc := 38) dX7_settleLeaves_38 ?_
      refine e_lstore (pc := 39) (i := 4) (lv' := [(0, vR l0), (1, vR l1), (2, vR l2), (3, vR l3), (4, vJ ((wJ w4 2 9 l3) - (wJ w4 2 10 l3)))]) dX7_settleLeaves_39 (by decide) rfl ?_
      refine e_aload_n (pc := 41) (i := 1) dX7_settleLeaves_41 rfl rfl ?_
      have k10 := hv.1
      replace hv := hv.2
      refine e_getR (pc := 42) dX7_settleLeaves_42 fRX7_170 rfl k10 ?_
      have k11 := hv.1
      replace hv := hv.2
      refine e_getI (pc := 45) dX7_settleLeaves_45 fRX7_186 rfl k11 ?_
      refine e_iconst (pc := 48) (v := 4) dX7_settleLeaves_48 (by decide) ?_
      refine e_icmp_ne (pc := 49) (tgt := 56) dX7_settleLeaves_49 (by decide) (fun h12 => ?_) (fun h12 => ?_)
      · replace hv := hv.1 h12
        refine e_iconst (pc := 56) (v := 0) dX7_settleLeaves_56 (by decide) ?_
        exact hv
      · replace hv := hv.2 h12
        refine e_iconst (pc := 52) (v := 1) dX7_settleLeaves_52 (by decide) ?_
        refine e_goto (pc := 53) (tgt := 57) dX7_settleLeaves_53 (by decide) ?_
        exact hv
set_option maxRecDepth 100000 in
set_option maxHeartbeats 4000000 in
theorem oX7_settleLeaves (X : Cx) (A : Wd → Prop) (mc ms : Nat) (a0 : Nat) (a1 : Nat) (a2 : Nat) (w : Wd)
    (hv : wK w a1 = 10 ∧ jX7_settleLeaves_5 X A mc ms mc ms a0 a1 a2 (wR w 9 9 a1) w) :
    Ct X (3, mc, ms) mX7_settleLeaves [vR a0, vR a1, vR a2] w (qV A) := by
  refine Ct.of (lv := [(0, vR a0), (1, vR a1), (2, vR a2)]) rfl (Nat.le_of_ble_eq_true rfl) rfl ?_
  refine e_aload_n (pc := 0) (i := 1) dX7_settleLeaves_0 rfl rfl ?_
  have k1 := hv.1
  replace hv := hv.2
  refine e_getR (pc := 1) dX7_settleLeaves_1 fRX7_83 rfl k1 ?_
  refine e_astore_n (pc := 4) (i := 3) (lv' := [(0, vR a0), (1, vR a1), (2, vR a2), (3, vR (wR w 9 9 a1))]) dX7_settleLeaves_4 rfl (by decide) rfl ?_
  exact hv
