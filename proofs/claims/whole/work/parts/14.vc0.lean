set_option maxRecDepth 100000 in
set_option maxHeartbeats 4000000 in
theorem oX0_init (X : Cx) (A : Wd → Prop) (a0 : Nat) (a1 : Int32) (a2 : Int32) (w : Wd)
    (hv : wK w a0 ≠ 0 ∧ wK w a0 = 1 ∧ ∀ w3 : Wd, w3 = sI w 0 0 a0 a1 → ∀ w5 : Wd, w5 = sI w3 0 1 a0 a2 → A w5) :
    Ct X bX0_init mX0_init [vR a0, vI a1, vI a2] w (qV A) := by
  refine Ct.of (lv := [(0, vR a0), (1, vI a1), (2, vI a2)]) rfl (Nat.le_of_ble_eq_true rfl) rfl ?_
  refine e_aload_n (pc := 0) (i := 0) dX0_init_0 rfl rfl ?_
  have k1 := hv.1
  replace hv := hv.2
  refine e_objInit (pc := 1) dX0_init_1 (tb_a1 212 (by decide +kernel) rfl) k1 (Nat.le_of_ble_eq_true rfl) (Nat.le_of_ble_eq_true rfl) (Nat.le_of_ble_eq_true rfl) ?_
  refine e_aload_n (pc := 4) (i := 0) dX0_init_4 rfl rfl ?_
  refine e_iload_n (pc := 5) (i := 1) dX0_init_5 rfl rfl ?_
  have k2 := hv.1
  replace hv := hv.2
  obtain ⟨w3, hw3⟩ : ∃ w3 : Wd, w3 = sI w 0 0 a0 a1 := ⟨_, rfl⟩
  replace hv := hv w3 hw3
  refine e_putI (pc := 6) dX0_init_6 fRX0_7 (Or.inr ⟨rfl, rfl, rfl⟩) rfl k2 ?_
  rw [← hw3]
  refine e_aload_n (pc := 9) (i := 0) dX0_init_9 rfl rfl ?_
  refine e_iload_n (pc := 10) (i := 2) dX0_init_10 rfl rfl ?_
  have k4 : wK w3 a0 = 1 := (by rw [hw3]; exact k2)
  obtain ⟨w5, hw5⟩ : ∃ w5 : Wd, w5 = sI w3 0 1 a0 a2 := ⟨_, rfl⟩
  replace hv := hv w5 hw5
  refine e_putI (pc := 11) dX0_init_11 fRX0_13 (Or.inr ⟨rfl, rfl, rfl⟩) rfl k4 ?_
  rw [← hw5]
  exact e_vreturn (pc := 14) dX0_init_14 rfl ⟨rfl, hv⟩
set_option maxRecDepth 100000 in
set_option maxHeartbeats 4000000 in
theorem oX0_happened (X : Cx) (A : Int32 → Wd → Prop) (a0 : Nat) (a1 : Nat) (w : Wd)
    (hv : ((a0 = 0) → A 0 w) ∧ ((¬ a0 = 0) → wK w a0 = 1 ∧ wK w a1 = 5 ∧ (((wI w 4 0 a1) < (wI w 0 0 a0)) → A 0 w) ∧ ((¬ (wI w 4 0 a1) < (wI w 0 0 a0)) → (((wI w 4 1 a1) < (wI w 0 1 a0)) → A 0 w) ∧ ((¬ (wI w 4 1 a1) < (wI w 0 1 a0)) → A 1 w)))) :
    Ct X bX0_happened mX0_happened [vR a0, vR a1] w (qI A) := by
  refine Ct.of (lv := [(0, vR a0), (1, vR a1)]) rfl (Nat.le_of_ble_eq_true rfl) rfl ?_
  refine e_aload_n (pc := 0) (i := 0) dX0_happened_0 rfl rfl ?_
  refine e_ifnull (pc := 1) (tgt := 30) dX0_happened_1 (by decide) (fun h1 => ?_) (fun h1 => ?_)
  · replace hv := hv.1 h1
    refine e_iconst (pc := 30) (v := 0) dX0_happened_30 (by decide) ?_
    exact e_zreturn (pc := 31) dX0_happened_31 rfl (Or.inl rfl) ⟨_, rfl, hv⟩
  · replace hv := hv.2 h1
    refine e_aload_n (pc := 4) (i := 0) dX0_happened_4 rfl rfl ?_
    have k2 := hv.1
    replace hv := hv.2
    refine e_getI (pc := 5) dX0_happened_5 fRX0_7 rfl k2 ?_
    refine e_aload_n (pc := 8) (i := 1) dX0_happened_8 rfl rfl ?_
    have k3 := hv.1
    replace hv := hv.2
    refine e_getI (pc := 9) dX0_happened_9 fRX0_16 rfl k3 ?_
    refine e_icmp_gt (pc := 12) (tgt := 30) dX0_happened_12 (by decide) (fun h4 => ?_) (fun h4 => ?_)
    · replace hv := hv.1 h4
      refine e_iconst (pc := 30) (v := 0) dX0_happened_30 (by decide) ?_
      exact e_zreturn (pc := 31) dX0_happened_31 rfl (Or.inl rfl) ⟨_, rfl, hv⟩
    · replace hv := hv.2 h4
      refine e_aload_n (pc := 15) (i := 0) dX0_happened_15 rfl rfl ?_
      refine e_getI (pc := 16) dX0_happened_16 fRX0_13 rfl k2 ?_
      refine e_aload_n (pc := 19) (i := 1) dX0_happened_19 rfl rfl ?_
      refine e_getI (pc := 20) dX0_happened_20 fRX0_21 rfl k3 ?_
      refine e_icmp_gt (pc := 23) (tgt := 30) dX0_happened_23 (by decide) (fun h5 => ?_) (fun h5 => ?_)
      · replace hv := hv.1 h5
        refine e_iconst (pc := 30) (v := 0) dX0_happened_30 (by decide) ?_
        exact e_zreturn (pc := 31) dX0_happened_31 rfl (Or.inl rfl) ⟨_, rfl, hv⟩
      · replace hv := hv.2 h5
        refine e_iconst (pc := 26) (v := 1) dX0_happened_26 (by decide) ?_
        refine e_goto (pc := 27) (tgt := 31) dX0_happened_27 (by decide) ?_
        exact e_zreturn (pc := 31) dX0_happened_31 rfl (Or.inr rfl) ⟨_, rfl, hv⟩
set_option maxRecDepth 100000 in
set_option maxHeartbeats 4000000 in
theorem oX1_init (X : Cx) (A : Wd → Prop) (a0 : Nat) (w : Wd)
    (hv : wK w a0 ≠ 0 ∧ ∀ q2 : Nat, wK w q2 = 0 → q2 ≠ 0 → ∀ w3 : Wd, w3 = nA w 13 q2 101 → wK w3 a0 = 2 ∧ ∀ w5 : Wd, w5 = sR w3 1 0 a0 q2 → A w5) :
    Ct X bX1_init mX1_init [vR a0] w (qV A) := by
  refine Ct.of (lv := [(0, vR a0)]) rfl (Nat.le_of_ble_eq_true rfl) rfl ?_
  refine e_aload_n (pc := 0) (i := 0) dX1_init_0 rfl rfl ?_
  have k1 := hv.1
  replace hv := hv.2
  refine e_objInit (pc := 1) dX1_init_1 (tb_a1 31 (by decide +kernel) rfl) k1 (Nat.le_of_ble_eq_true rfl) (Nat.le_of_ble_eq_true rfl) (Nat.le_of_ble_eq_true rfl) ?_
  refine e_aload_n (pc := 4) (i := 0) dX1_init_4 rfl rfl ?_
  refine e_bipush (pc := 5) (v := 101) dX1_init_5 (by decide) ?_
  refine e_newI (pc := 7) (N := 101) (rc' := 0) (rs' := 0) dX1_init_7 (by decide) (by decide) (by decide) rfl rfl (fun q2 hq2 nq2 => ?_)
  obtain ⟨w3, hw3⟩ : ∃ w3 : Wd, w3 = nA w 13 q2 101 := ⟨_, rfl⟩
  replace hv := hv q2 hq2 nq2 w3 hw3
  rw [← hw3]
  have k4 := hv.1
  replace hv := hv.2
  obtain ⟨w5, hw5⟩ : ∃ w5 : Wd, w5 = sR w3 1 0 a0 q2 := ⟨_, rfl⟩
  replace hv := hv w5 hw5
  refine e_putR (pc := 9) dX1_init_9 fRX1_9 (Or.inr ⟨rfl, rfl, rfl⟩) rfl k4 ?_
  rw [← hw5]
  exact e_vreturn (pc := 12) dX1_init_12 rfl ⟨rfl, hv⟩
set_option maxRecDepth 100000 in
set_option maxHeartbeats 4000000 in
theorem oX1_wholeAt (X : Cx) (A : Int32 → Wd → Prop) (a0 : Nat) (a1 : Int32) (w : Wd)
    (hv : ((a1 < 0) → A (-1) w) ∧ ((¬ a1 < 0) → wK w a0 = 2 ∧ (((wI w 1 1 a0) ≤ a1) → A (-1) w) ∧ ((¬ (wI w 1 1 a0) ≤ a1) → wK w (wR w 1 0 a0) = 13 ∧ (((Int32.ofNat (wL w (wR w 1 0 a0))) ≤ a1) → A (-1) w) ∧ ((¬ (Int32.ofNat (wL w (wR w 1 0 a0))) ≤ a1) → vp_in a1 (wL w (wR w 1 0 a0)) ∧ A (xI w (wR w 1 0 a0) a1.toNatClampNeg) w)))) :
    Ct X bX1_wholeAt mX1_wholeAt [vR a0, vI a1] w (qI A) := by
  refine Ct.of (lv := [(0, vR a0), (1, vI a1)]) rfl (Nat.le_of_ble_eq_true rfl) rfl ?_
  refine e_iload_n (pc := 0) (i := 1) dX1_wholeAt_0 rfl rfl ?_
  refine e_if_lt (pc := 1) (tgt := 30) dX1_wholeAt_1 (by decide) (fun h1 => ?_) (fun h1 => ?_)
  · replace hv := hv.1 h1
    refine e_iconst (pc := 30) (v := (-1)) dX1_wholeAt_30 (by decide) ?_
    exact e_ireturn (pc := 31) dX1_wholeAt_31 rfl ⟨_, rfl, hv⟩
  · replace hv := hv.2 h1
    refine e_iload_n (pc := 4) (i := 1) dX1_wholeAt_4 rfl rfl ?_
    refine e_aload_n (pc := 5) (i := 0) dX1_wholeAt_5 rfl rfl ?_
    have k2 := hv.1
    replace hv := hv.2
    refine e_getI (pc := 6) dX1_wholeAt_6 fRX1_15 rfl k2 ?_
    refine e_icmp_ge (pc := 9) (tgt := 30) dX1_wholeAt_9 (by decide) (fun h3 => ?_) (fun h3 => ?_)
    · replace hv := hv.1 h3
      refine e_iconst (pc := 30) (v := (-1)) dX1_wholeAt_30 (by decide) ?_
      exact e_ireturn (pc := 31) dX1_wholeAt_31 rfl ⟨_, rfl, hv⟩
    · replace hv := hv.2 h3
      refine e_iload_n (pc := 12) (i := 1) dX1_wholeAt_12 rfl rfl ?_
      refine e_aload_n (pc := 13) (i := 0) dX1_wholeAt_13 rfl rfl ?_
      refine e_getR (pc := 14) dX1_wholeAt_14 fRX1_9 rfl k2 ?_
      have k4 := hv.1
      replace hv := hv.2
      refine e_alen (pc := 17) dX1_wholeAt_17 (by decide) (by decide) k4 ?_
      refine e_icmp_ge (pc := 18) (tgt := 30) dX1_wholeAt_18 (by decide) (fun h5 => ?_) (fun h5 => ?_)
      · replace hv := hv.1 h5
        refine e_iconst (pc := 30) (v := (-1)) dX1_wholeAt_30 (by decide) ?_
        exact e_ireturn (pc := 31) dX1_wholeAt_31 rfl ⟨_, rfl, hv⟩
      · replace hv := hv.2 h5
        refine e_aload_n (pc := 21) (i := 0) dX1_wholeAt_21 rfl rfl ?_
        refine e_getR (pc := 22) dX1_wholeAt_22 fRX1_9 rfl k2 ?_
        refine e_iload_n (pc := 25) (i := 1) dX1_wholeAt_25 rfl rfl ?_
        have hi6 := hv.1
        replace hv := hv.2
        refine e_iald (pc := 26) dX1_wholeAt_26 k4 hi6 ?_
        refine e_goto (pc := 27) (tgt := 31) dX1_wholeAt_27 (by decide) ?_
        exact e_ireturn (pc := 31) dX1_wholeAt_31 rfl ⟨_, rfl, hv⟩
abbrev jX1_closedBy_42 (X : Cx) (A : Int32 → Wd → Prop) (l0 : Nat) (l1 : Nat) (l3 : Nat) (l4 : Nat) (l5 : Int32) (w : Wd) : Prop := EJ X mX1_closedBy (vw X bX1_closedBy (qI A)) 0 0 42 [(0, vR l0), (1, vR l1), (3, vR l3), (4, vR l4), (5, vI l5)] [] w
set_option maxRecDepth 100000 in
set_option maxHeartbeats 4000000 in
theorem tX1_closedBy_42 (X : Cx) (A : Int32 → Wd → Prop) (l0 : Nat) (l1 : Nat) (l3 : Nat) (l4 : Nat) (l5 : Int32) (w : Wd)
    (hv : ((100 ≤ l5) → A 1 w) ∧ ((¬ 100 ≤ l5) → ((l4 = 0) → A 1 w) ∧ ((¬ l4 = 0) → ((l4 = l1) → A 1 w) ∧ ((¬ l4 = l1) → wK w l0 = 2 ∧ Ct X bX1_add mX1_add [vR l0, vR l4] w (qV fun w4 => Ct X bX1_nearer mX1_nearer [vR l4, vR l3] w4 (qR fun x8 w7 => jX1_closedBy_42 X A l0 l1 l3 x8 (l5 + 1) w7)))))) :
    jX1_closedBy_42 X A l0 l1 l3 l4 l5 w := by
  refine e_iload (pc := 42) (i := 5) dX1_closedBy_42 rfl ?_
  refine e_bipush (pc := 44) (v := 100) dX1_closedBy_44 (by decide) ?_
  refine e_icmp_ge (pc := 46) (tgt := 80) dX1_closedBy_46 (by decide) (fun h1 => ?_) (fun h1 => ?_)
  · replace hv := hv.1 h1
    refine e_iconst (pc := 80) (v := 1) dX1_closedBy_80 (by decide) ?_
    exact e_zreturn (pc := 81) dX1_closedBy_81 rfl (Or.inr rfl) ⟨_, rfl, hv⟩
  · replace hv := hv.2 h1
    refine e_aload (pc := 49) (i := 4) dX1_closedBy_49 rfl ?_
    refine e_ifnull (pc := 51) (tgt := 80) dX1_closedBy_51 (by decide) (fun h2 => ?_) (fun h2 => ?_)
    · replace hv := hv.1 h2
      refine e_iconst (pc := 80) (v := 1) dX1_closedBy_80 (by decide) ?_
      exact e_zreturn (pc := 81) dX1_closedBy_81 rfl (Or.inr rfl) ⟨_, rfl, hv⟩
    · replace hv := hv.2 h2
      refine e_aload (pc := 54) (i := 4) dX1_closedBy_54 rfl ?_
      refine e_aload_n (pc := 56) (i := 1) dX1_closedBy_56 rfl rfl ?_
      refine e_acmp_eq (pc := 57) (tgt := 80) dX1_closedBy_57 (by decide) (fun h3 => ?_) (fun h3 => ?_)
      · replace hv := hv.1 h3
        refine e_iconst (pc := 80) (v := 1) dX1_closedBy_80 (by decide) ?_
        exact e_zreturn (pc := 81) dX1_closedBy_81 rfl (Or.inr rfl) ⟨_, rfl, hv⟩
      · replace hv := hv.2 h3
        refine e_aload_n (pc := 60) (i := 0) dX1_closedBy_60 rfl rfl ?_
        refine e_aload (pc := 61) (i := 4) dX1_closedBy_61 rfl ?_
        have k6 := hv.1
        replace hv := hv.2
        refine e_callVv (pc := 63) (ci := 1) (st := []) (rc' := 0) (rs' := 0) (B' := bX1_add) [vR l4] dX1_closedBy_63 vRX1_31 kX1_add (by decide) rfl k6 rfl rfl (Nat.le_of_ble_eq_true rfl) ⟨Nat.le_of_ble_eq_true rfl, Nat.le_of_ble_eq_true rfl⟩ rfl rfl hv (fun w4 hv => ?_)
        refine e_aload (pc := 66) (i := 4) dX1_closedBy_66 rfl ?_
        refine e_aload_n (pc := 68) (i := 3) dX1_closedBy_68 rfl rfl ?_
        refine e_callSr (pc := 69) (st := []) (rc' := 0) (rs' := 0) (B' := bX1_nearer) [vR l4, vR l3] dX1_closedBy_69 vRX1_35 kX1_nearer rfl rfl (Nat.le_of_ble_eq_true rfl) ⟨Nat.le_of_ble_eq_true rfl, Nat.le_of_ble_eq_true rfl⟩ rfl rfl hv (fun x8 w7 hv => ?_)
        refine e_astore (pc := 72) (i := 4) (lv' := [(0, vR l0), (1, vR l1), (3, vR l3), (4, vR x8), (5, vI l5)]) dX1_closedBy_72 (by decide) rfl ?_
        refine e_iinc (pc := 74) (v := l5 + 1) (lv' := [(0, vR l0), (1, vR l1), (3, vR l3), (4, vR x8), (5, vI (l5 + 1))]) dX1_closedBy_74 rfl rfl (by decide) rfl ?_
        refine e_goto (pc := 77) (tgt := 42) dX1_closedBy_77 (by decide) ?_
        exact hv
set_option maxRecDepth 100000 in
set_option maxHeartbeats 4000000 in
theorem oX1_closedBy (X : Cx) (A : Int32 → Wd → Prop) (a0 : Nat) (a1 : Nat) (a2 : Nat) (a3 : Nat) (w : Wd)
    (hv : Ct X bX1_measureSteps mX1_measureSteps [vR a1, vR a2, vR a3] w (qV fun w1 => wK w1 a2 = 10 ∧ ((¬ (wI w1 9 16 a2) = (-1)) → wK w1 a0 = 2 ∧ ∀ w6 : Wd, w6 = sI w1 1 2 a0 ((wI w1 1 2 a0) + 1) → ∀ w8 : Wd, w8 = sI w6 1 1 a0 0 → Ct X bX1_add mX1_add [vR a0, vR a1] w8 (qV fun w9 => jX1_closedBy_42 X A a0 a1 a3 a2 0 w9)) ∧ (((wI w1 9 16 a2) = (-1)) → A 0 w1))) :
    Ct X bX1_closedBy mX1_closedBy [vR a0, vR a1, vR a2, vR a3] w (qI A) := by
  refine Ct.of (lv := [(0, vR a0), (1, vR a1), (2, vR a2), (3, vR a3)]) rfl (Nat.le_of_ble_eq_true rfl) rfl ?_
  refine e_aload_n (pc := 0) (i := 1) dX1_closedBy_0 rfl rfl ?_
  refine e_aload_n (pc := 1) (i := 2) dX1_closedBy_1 rfl rfl ?_
  refine e_aload_n (pc := 2) (i := 3) dX1_closedBy_2 rfl rfl ?_
  refine e_callSv (pc := 3) (st := []) (rc' := 0) (rs' := 0) (B' := bX1_measureSteps) [vR a1, vR a2, vR a3] dX1_closedBy_3 vRX1_19 kX1_measureSteps rfl rfl (Nat.le_of_ble_eq_true rfl) ⟨Nat.le_of_ble_eq_true rfl, Nat.le_of_ble_eq_true rfl⟩ rfl rfl hv (fun w1 hv => ?_)
  refine e_aload_n (pc := 6) (i := 2) dX1_closedBy_6 rfl rfl ?_
  have k3 := hv.1
  replace hv := hv.2
  refine e_getI (pc := 7) dX1_closedBy_7 fRX1_23 rfl k3 ?_
  refine e_iconst (pc := 10) (v := (-1)) dX1_closedBy_10 (by decide) ?_
  refine e_icmp_ne (pc := 11) (tgt := 16) dX1_closedBy_11 (by decide) (fun h4 => ?_) (fun h4 => ?_)
  · replace hv := hv.1 h4
    refine e_aload_n (pc := 16) (i := 0) dX1_closedBy_16 rfl rfl ?_
    refine e_dup (pc := 17) dX1_closedBy_17 rfl ?_
    have k5 := hv.1
    replace hv := hv.2
    refine e_getI (pc := 18) dX1_closedBy_18 fRX1_28 rfl k5 ?_
    refine e_iconst (pc := 21) (v := 1) dX1_closedBy_21 (by decide) ?_
    refine e_iadd (pc := 22) dX1_closedBy_22 ?_
    obtain ⟨w6, hw6⟩ : ∃ w6 : Wd, w6 = sI w1 1 2 a0 ((wI w1 1 2 a0) + 1) := ⟨_, rfl⟩
    replace hv := hv w6 hw6
    refine e_putI (pc := 23) dX1_closedBy_23 fRX1_28 (Or.inl rfl) rfl k5 ?_
    rw [← hw6]
    refine e_aload_n (pc := 26) (i := 0) dX1_closedBy_26 rfl rfl ?_
    refine e_iconst (pc := 27) (v := 0) dX1_closedBy_27 (by decide) ?_
    have k7 : wK w6 a0 = 2 := (by rw [hw6]; exact k5)
    obtain ⟨w8, hw8⟩ : ∃ w8 : Wd, w8 = sI w6 1 1 a0 0 := ⟨_, rfl⟩
    replace hv := hv w8 hw8
    refine e_putI (pc := 28) dX1_closedBy_28 fRX1_15 (Or.inl rfl) rfl k7 ?_
    rw [← hw8]
    refine e_aload_n (pc := 31) (i := 0) dX1_closedBy_31 rfl rfl ?_
    refine e_aload_n (pc := 32) (i := 1) dX1_closedBy_32 rfl rfl ?_
    have k11 : wK w8 a0 = 2 := (by rw [hw8]; exact k7)
    refine e_callVv (pc := 33) (ci := 1) (st := []) (rc' := 0) (rs' := 0) (B' := bX1_add) [vR a1] dX1_closedBy_33 vRX1_31 kX1_add (by decide) rfl k11 rfl rfl (Nat.le_of_ble_eq_true rfl) ⟨Nat.le_of_ble_eq_true rfl, Nat.le_of_ble_eq_true rfl⟩ rfl rfl hv (fun w9 hv => ?_)
    refine e_aload_n (pc := 36) (i := 2) dX1_closedBy_36 rfl rfl ?_
    refine e_astore (pc := 37) (i := 4) (lv' := [(0, vR a0), (1, vR a1), (2, vR a2), (3, vR a3), (4, vR a2)]) dX1_closedBy_37 (by decide) rfl ?_
    refine e_iconst (pc := 39) (v := 0) dX1_closedBy_39 (by decide) ?_
    refine e_istore (pc := 40) (i := 5) (lv' := [(0, vR a0), (1, vR a1), (2, vR a2), (3, vR a3), (4, vR a2), (5, vI 0)]) dX1_closedBy_40 (by decide) rfl ?_
    exact EJ.drop [0, 1, 3, 4, 5] rfl hv
  · replace hv := hv.2 h4
    refine e_iconst (pc := 14) (v := 0) dX1_closedBy_14 (by decide) ?_
    exact e_zreturn (pc := 15) dX1_closedBy_15 rfl (Or.inl rfl) ⟨_, rfl, hv⟩
abbrev jX1_measureSteps_2 (X : Cx) (A : Wd → Prop) (l0 : Nat) (l1 : Nat) (l2 : Nat) (l3 : Nat) (w : Wd) : Prop := EJ X mX1_measureSteps (vw X bX1_measureSteps (qV A)) 0 0 2 [(0, vR l0), (1, vR l1), (2, vR l2), (3, vR l3)] [] w
abbrev jX1_measureSteps_51 (X : Cx) (A : Wd → Prop) (l2 : Nat) (l3 : Int32) (l4 : Int32) (w : Wd) : Prop := EJ X mX1_measureSteps (vw X bX1_measureSteps (qV A)) 0 0 51 [(2, vR l2), (3, vI l3), (4, vI l4)] [] w
abbrev jX1_measureSteps_67 (X : Cx) (A : Wd → Prop) (l2 : Nat) (l3 : Int32) (l4 : Int32) (l5 : Nat) (w : Wd) : Prop := EJ X mX1_measureSteps (vw X bX1_measureSteps (qV A)) 0 0 67 [(2, vR l2), (3, vI l3), (4, vI l4), (5, vR l5)] [] w
set_option maxRecDepth 100000 in
set_option maxHeartbeats 4000000 in
theorem tX1_measureSteps_67 (X : Cx) (A : Wd → Prop) (l2 : Nat) (l3 : Int32) (l4 : Int32) (l5 : Nat) (w : Wd)
    (hv : ((l5 = 0) → jX1_measureSteps_51 X A l2 l3 (l4 + 1) w) ∧ ((¬ l5 = 0) → wK w l5 = 6 ∧ wK w (wR w 5 1 l5) = 3 ∧ ((¬ (wR w 5 5 l5) = 0) → jX1_measureSteps_67 X A l2 l3 l4 (wR w 5 6 l5) w) ∧ (((wR w 5 5 l5) = 0) → wK w (wR w 2 1 (wR w 5 1 l5)) = 10 ∧ ((¬ (wI w 9 16 (wR w 2 1 (wR w 5 1 l5))) = (-1)) → jX1_measureSteps_67 X A l2 l3 l4 (wR w 5 6 l5) w) ∧ (((wI w 9 16 (wR w 2 1 (wR w 5 1 l5))) = (-1)) → wK w (wR w 5 2 l5) = 3 ∧ wK w (wR w 2 1 (wR w 5 2 l5)) = 10 ∧ ((¬ (wI w 9 16 (wR w 2 1 (wR w 5 2 l5))) = (l4 - 1)) → jX1_measureSteps_67 X A l2 l3 l4 (wR w 5 6 l5) w) ∧ (((wI w 9 16 (wR w 2 1 (wR w 5 2 l5))) = (l4 - 1)) → ∀ w10 : Wd, w10 = sI w 9 16 (wR w 2 1 (wR w 5 1 l5)) l4 → jX1_measureSteps_67 X A l2 1 l4 (wR w10 5 6 l5) w10))))) :
    jX1_measureSteps_67 X A l2 l3 l4 l5 w := by
  refine e_aload (pc := 67) (i := 5) dX1_measureSteps_67 rfl ?_
  refine e_ifnull (pc := 69) (tgt := 136) dX1_measureSteps_69 (by decide) (fun h1 => ?_) (fun h1 => ?_)
  · replace hv := hv.1 h1
    refine e_iinc (pc := 136) (v := l4 + 1) (lv' := [(2, vR l2), (3, vI l3), (4, vI (l4 + 1)), (5, vR l5)]) dX1_measureSteps_136 rfl rfl (by decide) rfl ?_
    refine e_goto (pc := 139) (tgt := 51) dX1_measureSteps_139 (by decide) ?_
    exact EJ.drop [2, 3, 4] rfl hv
  · replace hv := hv.2 h1
    refine e_aload (pc := 72) (i := 5) dX1_measureSteps_72 rfl ?_
    have k2 := hv.1
    replace hv := hv.2
    refine e_getR (pc := 74) dX1_measureSteps_74 fRX1_39 rfl k2 ?_
    have k3 := hv.1
    replace hv := hv.2
    refine e_getR (pc := 77) dX1_measureSteps_77 fRX1_45 rfl k3 ?_
    refine e_astore (pc := 80) (i := 6) (lv' := [(2, vR l2), (3, vI l3), (4, vI l4), (5, vR l5), (6, vR (wR w 2 1 (wR w 5 1 l5)))]) dX1_measureSteps_80 (by decide) rfl ?_
    refine e_aload (pc := 82) (i := 5) dX1_measureSteps_82 rfl ?_
    refine e_getR (pc := 84) dX1_measureSteps_84 fRX1_58 rfl k2 ?_
    refine e_ifnonnull (pc := 87) (tgt := 126) dX1_measureSteps_87 (by decide) (fun h4 => ?_) (fun h4 => ?_)
    · replace hv := hv.1 h4
      refine e_aload (pc := 126) (i := 5) dX1_measureSteps_126 rfl ?_
      refine e_getR (pc := 128) dX1_measureSteps_128 fRX1_54 rfl k2 ?_
      refine e_astore (pc := 131) (i := 5) (lv' := [(2, vR l2), (3, vI l3), (4, vI l4), (5, vR (wR w 5 6 l5)), (6, vR (wR w 2 1 (wR w 5 1 l5)))]) dX1_measureSteps_131 (by decide) rfl ?_
      refine e_goto (pc := 133) (tgt := 67) dX1_measureSteps_133 (by decide) ?_
      exact EJ.drop [2, 3, 4, 5] rfl hv
    · replace hv := hv.2 h4
      refine e_aload (pc := 90) (i := 6) dX1_measureSteps_90 rfl ?_
      have k5 := hv.1
      replace hv := hv.2
      refine e_getI (pc := 92) dX1_measureSteps_92 fRX1_23 rfl k5 ?_
      refine e_iconst (pc := 95) (v := (-1)) dX1_measureSteps_95 (by decide) ?_
      refine e_icmp_ne (pc := 96) (tgt := 126) dX1_measureSteps_96 (by decide) (fun h6 => ?_) (fun h6 => ?_)
      · replace hv := hv.1 h6
        refine e_aload (pc := 126) (i := 5) dX1_measureSteps_126 rfl ?_
        refine e_getR (pc := 128) dX1_measureSteps_128 fRX1_54 rfl k2 ?_
        refine e_astore (pc := 131) (i := 5) (lv' := [(2, vR l2), (3, vI l3), (4, vI l4), (5, vR (wR w 5 6 l5)), (6, vR (wR w 2 1 (wR w 5 1 l5)))]) dX1_measureSteps_131 (by decide) rfl ?_
        refine e_goto (pc := 133) (tgt := 67) dX1_measureSteps_133 (by decide) ?_
        exact EJ.drop [2, 3, 4, 5] rfl hv
      · replace hv := hv.2 h6
        refine e_aload (pc := 99) (i := 5) dX1_measureSteps_99 rfl ?_
        refine e_getR (pc := 101) dX1_measureSteps_101 fRX1_51 rfl k2 ?_
        have k7 := hv.1
        replace hv := hv.2
        refine e_getR (pc := 104) dX1_measureSteps_104 fRX1_45 rfl k7 ?_
        have k8 := hv.1
        replace hv := hv.2
        refine e_getI (pc := 107) dX1_measureSteps_107 fRX1_23 rfl k8 ?_
        refine e_iload (pc := 110) (i := 4) dX1_measureSteps_110 rfl ?_
        refine e_iconst (pc := 112) (v := 1) dX1_measureSteps_112 (by decide) ?_
        refine e_isub (pc := 113) dX1_measureSteps_113 ?_
        refine e_icmp_ne (pc := 114) (tgt := 126) dX1_measureSteps_114 (by decide) (fun h9 => ?_) (fun h9 => ?_)
        · replace hv := hv.1 h9
          refine e_aload (pc := 126) (i := 5) dX1_measureSteps_126 rfl ?_
          refine e_getR (pc := 128) dX1_measureSteps_128 fRX1_54 rfl k2 ?_
          refine e_astore (pc := 131) (i := 5) (lv' := [(2, vR l2), (3, vI l3), (4, vI l4), (5, vR (wR w 5 6 l5)), (6, vR (wR w 2 1 (wR w 5 1 l5)))]) dX1_measureSteps_131 (by decide) rfl ?_
          refine e_goto (pc := 133) (tgt := 67) dX1_measureSteps_133 (by decide) ?_
          exact EJ.drop [2, 3, 4, 5] rfl hv
        · replace hv := hv.2 h9
          refine e_aload (pc := 117) (i := 6) dX1_measureSteps_117 rfl ?_
          refine e_iload (pc := 119) (i := 4) dX1_measureSteps_119 rfl ?_
          obtain ⟨w10, hw10⟩ : ∃ w10 : Wd, w10 = sI w 9 16 (wR w 2 1 (wR w 5 1 l5)) l4 := ⟨_, rfl⟩
          replace hv := hv w10 hw10
          refine e_putI (pc := 121) dX1_measureSteps_121 fRX1_23 (Or.inl rfl) rfl k5 ?_
          rw [← hw10]
          refine e_iconst (pc := 124) (v := 1) dX1_measureSteps_124 (by decide) ?_
          refine e_istore_n (pc := 125) (i := 3) (lv' := [(2, vR l2), (3, vI 1), (4, vI l4), (5, vR l5), (6, vR (wR w 2 1 (wR w 5 1 l5)))]) dX1_measureSteps_125 rfl (by decide) rfl ?_
          refine e_aload (pc := 126) (i := 5) dX1_measureSteps_126 rfl ?_
          have k11 : wK w10 l5 = 6 := (by rw [hw10]; exact k2)
          refine e_getR (pc := 128) dX1_measureSteps_128 fRX1_54 rfl k11 ?_
          refine e_astore (pc := 131) (i := 5) (lv' := [(2, vR l2), (3, vI 1), (4, vI l4), (5, vR (wR w10 5 6 l5)), (6, vR (wR w 2 1 (wR w 5 1 l5)))]) dX1_measureSteps_131 (by decide) rfl ?_
          refine e_goto (pc := 133) (tgt := 67) dX1_measureSteps_133 (by decide) ?_
          exact EJ.drop [2, 3, 4, 5] rfl hv
set_option maxRecDepth 100000 in
set_option maxHeartbeats 4000000 in
theorem tX1_measureSteps_51 (X : Cx) (A : Wd → Prop) (l2 : Nat) (l3 : Int32) (l4 : Int32) (w : Wd)
    (hv : ((100 < l4) → A w) ∧ ((¬ 100 < l4) → ((l3 = 0) → A w) ∧ ((¬ l3 = 0) → jX1_measureSteps_67 X A l2 0 l4 l2 w))) :
    jX1_measureSteps_51 X A l2 l3 l4 w := by
  refine e_iload (pc := 51) (i := 4) dX1_measureSteps_51 rfl ?_
  refine e_bipush (pc := 53) (v := 100) dX1_measureSteps_53 (by decide) ?_
  refine e_icmp_gt (pc := 55) (tgt := 142) dX1_measureSteps_55 (by decide) (fun h1 => ?_) (fun h1 => ?_)
  · replace hv := hv.1 h1
    exact e_vreturn (pc := 142) dX1_measureSteps_142 rfl ⟨rfl, hv⟩
  · replace hv := hv.2 h1
    refine e_iload_n (pc := 58) (i := 3) dX1_measureSteps_58 rfl rfl ?_
    refine e_if_eq (pc := 59) (tgt := 142) dX1_measureSteps_59 (by decide) (fun h2 => ?_) (fun h2 => ?_)
    · replace hv := hv.1 h2
      exact e_vreturn (pc := 142) dX1_measureSteps_142 rfl ⟨rfl, hv⟩
    · replace hv := hv.2 h2
      refine e_iconst (pc := 62) (v := 0) dX1_measureSteps_62 (by decide) ?_
      refine e_istore_n (pc := 63) (i := 3) (lv' := [(2, vR l2), (3, vI 0), (4, vI l4)]) dX1_measureSteps_63 rfl (by decide) rfl ?_
      refine e_aload_n (pc := 64) (i := 2) dX1_measureSteps_64 rfl rfl ?_
      refine e_astore (pc := 65) (i := 5) (lv' := [(2, vR l2), (3, vI 0), (4, vI l4), (5, vR l2)]) dX1_measureSteps_65 (by decide) rfl ?_
      exact hv
set_option maxRecDepth 100000 in
set_option maxHeartbeats 4000000 in
theorem tX1_measureSteps_2 (X : Cx) (A : Wd → Prop) (l0 : Nat) (l1 : Nat) (l2 : Nat) (l3 : Nat) (w : Wd)
    (hv : ((l3 = 0) → wK w l1 = 10 ∧ ∀ w3 : Wd, w3 = sI w 9 16 l1 (-1) → wK w3 l0 = 10 ∧ ∀ w5 : Wd, w5 = sI w3 9 16 l0 0 → jX1_measureSteps_51 X A l2 1 1 w5) ∧ ((¬ l3 = 0) → wK w l3 = 6 ∧ wK w (wR w 5 1 l3) = 3 ∧ wK w (wR w 2 1 (wR w 5 1 l3)) = 10 ∧ ∀ w9 : Wd, w9 = sI w 9 16 (wR w 2 1 (wR w 5 1 l3)) (-1) → wK w9 (wR w9 5 2 l3) = 3 ∧ wK w9 (wR w9 2 1 (wR w9 5 2 l3)) = 10 ∧ ∀ w13 : Wd, w13 = sI w9 9 16 (wR w9 2 1 (wR w9 5 2 l3)) (-1) → jX1_measureSteps_2 X A l0 l1 l2 (wR w13 5 6 l3) w13)) :
    jX1_measureSteps_2 X A l0 l1 l2 l3 w := by
  refine e_aload_n (pc := 2) (i := 3) dX1_measureSteps_2 rfl rfl ?_
  refine e_ifnull (pc := 3) (tgt := 36) dX1_measureSteps_3 (by decide) (fun h1 => ?_) (fun h1 => ?_)
  · replace hv := hv.1 h1
    refine e_aload_n (pc := 36) (i := 1) dX1_measureSteps_36 rfl rfl ?_
    refine e_iconst (pc := 37) (v := (-1)) dX1_measureSteps_37 (by decide) ?_
    have k2 := hv.1
    replace hv := hv.2
    obtain ⟨w3, hw3⟩ : ∃ w3 : Wd, w3 = sI w 9 16 l1 (-1) := ⟨_, rfl⟩
    replace hv := hv w3 hw3
    refine e_putI (pc := 38) dX1_measureSteps_38 fRX1_23 (Or.inl rfl) rfl k2 ?_
    rw [← hw3]
    refine e_aload_n (pc := 41) (i := 0) dX1_measureSteps_41 rfl rfl ?_
    refine e_iconst (pc := 42) (v := 0) dX1_measureSteps_42 (by decide) ?_
    have k4 := hv.1
    replace hv := hv.2
    obtain ⟨w5, hw5⟩ : ∃ w5 : Wd, w5 = sI w3 9 16 l0 0 := ⟨_, rfl⟩
    replace hv := hv w5 hw5
    refine e_putI (pc := 43) dX1_measureSteps_43 fRX1_23 (Or.inl rfl) rfl k4 ?_
    rw [← hw5]
    refine e_iconst (pc := 46) (v := 1) dX1_measureSteps_46 (by decide) ?_
    refine e_istore_n (pc := 47) (i := 3) (lv' := [(0, vR l0), (1, vR l1), (2, vR l2), (3, vI 1)]) dX1_measureSteps_47 rfl (by decide) rfl ?_
    refine e_iconst (pc := 48) (v := 1) dX1_measureSteps_48 (by decide) ?_
    refine e_istore (pc := 49) (i := 4) (lv' := [(0, vR l0), (1, vR l1), (2, vR l2), (3, vI 1), (4, vI 1)]) dX1_measureSteps_49 (by decide) rfl ?_
    exact EJ.drop [2, 3, 4] rfl hv
  · replace hv := hv.2 h1
    refine e_aload_n (pc := 6) (i := 3) dX1_measureSteps_6 rfl rfl ?_
    have k6 := hv.1
    replace hv := hv.2
    refine e_getR (pc := 7) dX1_measureSteps_7 fRX1_39 rfl k6 ?_
    have k7 := hv.1
    replace hv := hv.2
    refine e_getR (pc := 10) dX1_measureSteps_10 fRX1_45 rfl k7 ?_
    refine e_iconst (pc := 13) (v := (-1)) dX1_measureSteps_13 (by decide) ?_
    have k8 := hv.1
    replace hv := hv.2
    obtain ⟨w9, hw9⟩ : ∃ w9 : Wd, w9 = sI w 9 16 (wR w 2 1 (wR w 5 1 l3)) (-1) := ⟨_, rfl⟩
    replace hv := hv w9 hw9
    refine e_putI (pc := 14) dX1_measureSteps_14 fRX1_23 (Or.inl rfl) rfl k8 ?_
    rw [← hw9]
    refine e_aload_n (pc := 17) (i := 3) dX1_measureSteps_17 rfl rfl ?_
    have k10 : wK w9 l3 = 6 := (by rw [hw9]; exact k6)
    refine e_getR (pc := 18) dX1_measureSteps_18 fRX1_51 rfl k10 ?_
    have k11 := hv.1
    replace hv := hv.2
    refine e_getR (pc := 21) dX1_measureSteps_21 fRX1_45 rfl k11 ?_
    refine e_iconst (pc := 24) (v := (-1)) dX1_measureSteps_24 (by decide) ?_
    have k12 := hv.1
    replace hv := hv.2
    obtain ⟨w13, hw13⟩ : ∃ w13 : Wd, w13 = sI w9 9 16 (wR w9 2 1 (wR w9 5 2 l3)) (-1) := ⟨_, rfl⟩
    replace hv := hv w13 hw13
    refine e_putI (pc := 25) dX1_measureSteps_25 fRX1_23 (Or.inl rfl) rfl k12 ?_
    rw [← hw13]
    refine e_aload_n (pc := 28) (i := 3) dX1_measureSteps_28 rfl rfl ?_
    have k14 : wK w13 l3 = 6 := (by rw [hw13]; exact k10)
    refine e_getR (pc := 29) dX1_measureSteps_29 fRX1_54 rfl k14 ?_
    refine e_astore_n (pc := 32) (i := 3) (lv' := [(0, vR l0), (1, vR l1), (2, vR l2), (3, vR (wR w13 5 6 l3))]) dX1_measureSteps_32 rfl (by decide) rfl ?_
    refine e_goto (pc := 33) (tgt := 2) dX1_measureSteps_33 (by decide) ?_
    exact hv
set_option maxRecDepth 100000 in
set_option maxHeartbeats 4000000 in
theorem oX1_measureSteps (X : Cx) (A : Wd → Prop) (a0 : Nat) (a1 : Nat) (a2 : Nat) (w : Wd)
    (hv : jX1_measureSteps_2 X A a0 a1 a2 a2 w) :
    Ct X bX1_measureSteps mX1_measureSteps [vR a0, vR a1, vR a2] w (qV A) := by
  refine Ct.of (lv := [(0, vR a0), (1, vR a1), (2, vR a2)]) rfl (Nat.le_of_ble_eq_true rfl) rfl ?_
  refine e_aload_n (pc := 0) (i := 2) dX1_measureSteps_0 rfl rfl ?_
  refine e_astore_n (pc := 1) (i := 3) (lv' := [(0, vR a0), (1, vR a1), (2, vR a2), (3, vR a2)]) dX1_measureSteps_1 rfl (by decide) rfl ?_
  exact hv
abbrev jX1_nearer_2 (X : Cx) (A : Nat → Wd → Prop) (l0 : Nat) (l2 : Nat) (w : Wd) : Prop := EJ X mX1_nearer (vw X bX1_nearer (qR A)) 0 0 2 [(0, vR l0), (2, vR l2)] [] w
set_option maxRecDepth 100000 in
set_option maxHeartbeats 4000000 in
theorem tX1_nearer_2 (X : Cx) (A : Nat → Wd → Prop) (l0 : Nat) (l2 : Nat) (w : Wd)
    (hv : ((l2 = 0) → A 0 w) ∧ ((¬ l2 = 0) → wK w l2 = 6 ∧ ((¬ (wR w 5 5 l2) = 0) → jX1_nearer_2 X A l0 (wR w 5 6 l2) w) ∧ (((wR w 5 5 l2) = 0) → wK w (wR w 5 1 l2) = 3 ∧ ((¬ (wR w 2 1 (wR w 5 1 l2)) = l0) → jX1_nearer_2 X A l0 (wR w 5 6 l2) w) ∧ (((wR w 2 1 (wR w 5 1 l2)) = l0) → wK w (wR w 5 2 l2) = 3 ∧ wK w (wR w 2 1 (wR w 5 2 l2)) = 10 ∧ wK w l0 = 10 ∧ ((¬ (wI w 9 16 (wR w 2 1 (wR w 5 2 l2))) = ((wI w 9 16 l0) - 1)) → jX1_nearer_2 X A l0 (wR w 5 6 l2) w) ∧ (((wI w 9 16 (wR w 2 1 (wR w 5 2 l2))) = ((wI w 9 16 l0) - 1)) → A (wR w 2 1 (wR w 5 2 l2)) w))))) :
    jX1_nearer_2 X A l0 l2 w := by
  refine e_aload_n (pc := 2) (i := 2) dX1_nearer_2 rfl rfl ?_
  refine e_ifnull (pc := 3) (tgt := 59) dX1_nearer_3 (by decide) (fun h1 => ?_) (fun h1 => ?_)
  · replace hv := hv.1 h1
    refine e_null (pc := 59) dX1_nearer_59 ?_
    exact e_areturn (pc := 60) dX1_nearer_60 rfl ⟨_, rfl, hv⟩
  · replace hv := hv.2 h1
    refine e_aload_n (pc := 6) (i := 2) dX1_nearer_6 rfl rfl ?_
    have k2 := hv.1
    replace hv := hv.2
    refine e_getR (pc := 7) dX1_nearer_7 fRX1_58 rfl k2 ?_
    refine e_ifnonnull (pc := 10) (tgt := 51) dX1_nearer_10 (by decide) (fun h3 => ?_) (fun h3 => ?_)
    · replace hv := hv.1 h3
      refine e_aload_n (pc := 51) (i := 2) dX1_nearer_51 rfl rfl ?_
      refine e_getR (pc := 52) dX1_nearer_52 fRX1_54 rfl k2 ?_
      refine e_astore_n (pc := 55) (i := 2) (lv' := [(0, vR l0), (2, vR (wR w 5 6 l2))]) dX1_nearer_55 rfl (by decide) rfl ?_
      refine e_goto (pc := 56) (tgt := 2) dX1_nearer_56 (by decide) ?_
      exact hv
    · replace hv := hv.2 h3
      refine e_aload_n (pc := 13) (i := 2) dX1_nearer_13 rfl rfl ?_
      refine e_getR (pc := 14) dX1_nearer_14 fRX1_39 rfl k2 ?_
      have k4 := hv.1
      replace hv := hv.2
      refine e_getR (pc := 17) dX1_nearer_17 fRX1_45 rfl k4 ?_
      refine e_aload_n (pc := 20) (i := 0) dX1_nearer_20 rfl rfl ?_
      refine e_acmp_ne (pc := 21) (tgt := 51) dX1_nearer_21 (by decide) (fun h5 => ?_) (fun h5 => ?_)
      · replace hv := hv.1 h5
        refine e_aload_n (pc := 51) (i := 2) dX1_nearer_51 rfl rfl ?_
        refine e_getR (pc := 52) dX1_nearer_52 fRX1_54 rfl k2 ?_
        refine e_astore_n (pc := 55) (i := 2) (lv' := [(0, vR l0), (2, vR (wR w 5 6 l2))]) dX1_nearer_55 rfl (by decide) rfl ?_
        refine e_goto (pc := 56) (tgt := 2) dX1_nearer_56 (by decide) ?_
        exact hv
      · replace hv := hv.2 h5
        refine e_aload_n (pc := 24) (i := 2) dX1_nearer_24 rfl rfl ?_
        refine e_getR (pc := 25) dX1_nearer_25 fRX1_51 rfl k2 ?_
        have k6 := hv.1
        replace hv := hv.2
        refine e_getR (pc := 28) dX1_nearer_28 fRX1_45 rfl k6 ?_
        have k7 := hv.1
        replace hv := hv.2
        refine e_getI (pc := 31) dX1_nearer_31 fRX1_23 rfl k7 ?_
        refine e_aload_n (pc := 34) (i := 0) dX1_nearer_34 rfl rfl ?_
        have k8 := hv.1
        replace hv := hv.2
        refine e_getI (pc := 35) dX1_nearer_35 fRX1_23 rfl k8 ?_
        refine e_iconst (pc := 38) (v := 1) dX1_nearer_38 (by decide) ?_
        refine e_isub (pc := 39) dX1_nearer_39 ?_
        refine e_icmp_ne (pc := 40) (tgt := 51) dX1_nearer_40 (by decide) (fun h9 => ?_) (fun h9 => ?_)
        · replace hv := hv.1 h9
          refine e_aload_n (pc := 51) (i := 2) dX1_nearer_51 rfl rfl ?_
          refine e_getR (pc := 52) dX1_nearer_52 fRX1_54 rfl k2 ?_
          refine e_astore_n (pc := 55) (i := 2) (lv' := [(0, vR l0), (2, vR (wR w 5 6 l2))]) dX1_nearer_55 rfl (by decide) rfl ?_
          refine e_goto (pc := 56) (tgt := 2) dX1_nearer_56 (by decide) ?_
          exact hv
        · replace hv := hv.2 h9
          refine e_aload_n (pc := 43) (i := 2) dX1_nearer_43 rfl rfl ?_
          refine e_getR (pc := 44) dX1_nearer_44 fRX1_51 rfl k2 ?_
          refine e_getR (pc := 47) dX1_nearer_47 fRX1_45 rfl k6 ?_
          exact e_areturn (pc := 50) dX1_nearer_50 rfl ⟨_, rfl, hv⟩
set_option maxRecDepth 100000 in
set_option maxHeartbeats 4000000 in
theorem oX1_nearer (X : Cx) (A : Nat → Wd → Prop) (a0 : Nat) (a1 : Nat) (w : Wd)
    (hv : jX1_nearer_2 X A a0 a1 w) :
    Ct X bX1_nearer mX1_nearer [vR a0, vR a1] w (qR A) := by
  refine Ct.of (lv := [(0, vR a0), (1, vR a1)]) rfl (Nat.le_of_ble_eq_true rfl) rfl ?_
  refine e_aload_n (pc := 0) (i := 1) dX1_nearer_0 rfl rfl ?_
  refine e_astore_n (pc := 1) (i := 2) (lv' := [(0, vR a0), (1, vR a1), (2, vR a1)]) dX1_nearer_1 rfl (by decide) rfl ?_
  exact EJ.drop [0, 2] rfl hv
set_option maxRecDepth 100000 in
set_option maxHeartbeats 4000000 in
theorem oX1_add (X : Cx) (A : Wd → Prop) (a0 : Nat) (a1 : Nat) (w : Wd)
    (hv : wK w a0 = 2 ∧ wK w (wR w 1 0 a0) = 13 ∧ (((Int32.ofNat (wL w (wR w 1 0 a0))) ≤ (wI w 1 1 a0)) → A w) ∧ ((¬ (Int32.ofNat (wL w (wR w 1 0 a0))) ≤ (wI w 1 1 a0)) → wK w a1 = 10 ∧ Ct X bX9_number mX9_number [vR a1] w (qI fun x5 w4 => wK w4 (wR w 1 0 a0) = 13 ∧ vp_in (wI w 1 1 a0) (wL w4 (wR w 1 0 a0)) ∧ ∀ w9 : Wd, w9 = yI w4 (wR w 1 0 a0) (wI w 1 1 a0).toNatClampNeg x5 → wK w9 a0 = 2 ∧ ∀ w11 : Wd, w11 = sI w9 1 1 a0 ((wI w9 1 1 a0) + 1) → A w11))) :
    Ct X bX1_add mX1_add [vR a0, vR a1] w (qV A) := by
  refine Ct.of (lv := [(0, vR a0), (1, vR a1)]) rfl (Nat.le_of_ble_eq_true rfl) rfl ?_
  refine e_aload_n (pc := 0) (i := 0) dX1_add_0 rfl rfl ?_
  have k1 := hv.1
  replace hv := hv.2
  refine e_getI (pc := 1) dX1_add_1 fRX1_15 rfl k1 ?_
  refine e_aload_n (pc := 4) (i := 0) dX1_add_4 rfl rfl ?_
  refine e_getR (pc := 5) dX1_add_5 fRX1_9 rfl k1 ?_
  have k2 := hv.1
  replace hv := hv.2
  refine e_alen (pc := 8) dX1_add_8 (by decide) (by decide) k2 ?_
  refine e_icmp_ge (pc := 9) (tgt := 35) dX1_add_9 (by decide) (fun h3 => ?_) (fun h3 => ?_)
  · replace hv := hv.1 h3
    exact e_vreturn (pc := 35) dX1_add_35 rfl ⟨rfl, hv⟩
  · replace hv := hv.2 h3
    refine e_aload_n (pc := 12) (i := 0) dX1_add_12 rfl rfl ?_
    refine e_getR (pc := 13) dX1_add_13 fRX1_9 rfl k1 ?_
    refine e_aload_n (pc := 16) (i := 0) dX1_add_16 rfl rfl ?_
    refine e_getI (pc := 17) dX1_add_17 fRX1_15 rfl k1 ?_
    refine e_aload_n (pc := 20) (i := 1) dX1_add_20 rfl rfl ?_
    have k6 := hv.1
    replace hv := hv.2
    refine e_callVi (pc := 21) (ci := 9) (st := [vI (wI w 1 1 a0), vR (wR w 1 0 a0)]) (rc' := 0) (rs' := 0) (B' := bX9_number) [] dX1_add_21 vRX1_62 kX9_number (by decide) rfl k6 rfl rfl (Nat.le_of_ble_eq_true rfl) ⟨Nat.le_of_ble_eq_true rfl, Nat.le_of_ble_eq_true rfl⟩ rfl rfl hv (fun x5 w4 hv => ?_)
    have k7 := hv.1
    replace hv := hv.2
    have hi8 := hv.1
    replace hv := hv.2
    obtain ⟨w9, hw9⟩ : ∃ w9 : Wd, w9 = yI w4 (wR w 1 0 a0) (wI w 1 1 a0).toNatClampNeg x5 := ⟨_, rfl⟩
    replace hv := hv w9 hw9
    refine e_iast (pc := 24) dX1_add_24 k7 hi8 ?_
    rw [← hw9]
    refine e_aload_n (pc := 25) (i := 0) dX1_add_25 rfl rfl ?_
    refine e_dup (pc := 26) dX1_add_26 rfl ?_
    have k10 := hv.1
    replace hv := hv.2
    refine e_getI (pc := 27) dX1_add_27 fRX1_15 rfl k10 ?_
    refine e_iconst (pc := 30) (v := 1) dX1_add_30 (by decide) ?_
    refine e_iadd (pc := 31) dX1_add_31 ?_
    obtain ⟨w11, hw11⟩ : ∃ w11 : Wd, w11 = sI w9 1 1 a0 ((wI w9 1 1 a0) + 1) := ⟨_, rfl⟩
    replace hv := hv w11 hw11
    refine e_putI (pc := 32) dX1_add_32 fRX1_15 (Or.inl rfl) rfl k10 ?_
    rw [← hw11]
    exact e_vreturn (pc := 35) dX1_add_35 rfl ⟨rfl, hv⟩
set_option maxRecDepth 100000 in
set_option maxHeartbeats 4000000 in
theorem oX2_init (X : Cx) (A : Wd → Prop) (a0 : Nat) (a1 : Int32) (a2 : Nat) (a3 : Nat) (a4 : Int64) (a6 : Int32) (w : Wd)
    (hv : wK w a0 ≠ 0 ∧ wK w a0 = 3 ∧ ∀ w3 : Wd, w3 = sI w 2 0 a0 a1 → ∀ w5 : Wd, w5 = sR w3 2 1 a0 a2 → ∀ w7 : Wd, w7 = sR w5 2 2 a0 a3 → ∀ w9 : Wd, w9 = sJ w7 2 4 a0 a4 → ∀ w11 : Wd, w11 = sI w9 2 3 a0 a6 → A w11) :
    Ct X bX2_init mX2_init [vR a0, vI a1, vR a2, vR a3, vJ a4, vI a6] w (qV A) := by
  refine Ct.of (lv := [(0, vR a0), (1, vI a1), (2, vR a2), (3, vR a3), (4, vJ a4), (6, vI a6)]) rfl (Nat.le_of_ble_eq_true rfl) rfl ?_
  refine e_aload_n (pc := 0) (i := 0) dX2_init_0 rfl rfl ?_
  have k1 := hv.1
  replace hv := hv.2
  refine e_objInit (pc := 1) dX2_init_1 (tb_a2 110 (by decide +kernel) rfl) k1 (Nat.le_of_ble_eq_true rfl) (Nat.le_of_ble_eq_true rfl) (Nat.le_of_ble_eq_true rfl) ?_
  refine e_aload_n (pc := 4) (i := 0) dX2_init_4 rfl rfl ?_
  refine e_iload_n (pc := 5) (i := 1) dX2_init_5 rfl rfl ?_
  have k2 := hv.1
  replace hv := hv.2
  obtain ⟨w3, hw3⟩ : ∃ w3 : Wd, w3 = sI w 2 0 a0 a1 := ⟨_, rfl⟩
  replace hv := hv w3 hw3
  refine e_putI (pc := 6) dX2_init_6 fRX2_7 (Or.inr ⟨rfl, rfl, rfl⟩) rfl k2 ?_
  rw [← hw3]
  refine e_aload_n (pc := 9) (i := 0) dX2_init_9 rfl rfl ?_
  refine e_aload_n (pc := 10) (i := 2) dX2_init_10 rfl rfl ?_
  have k4 : wK w3 a0 = 3 := (by rw [hw3]; exact k2)
  obtain ⟨w5, hw5⟩ : ∃ w5 : Wd, w5 = sR w3 2 1 a0 a2 := ⟨_, rfl⟩
  replace hv := hv w5 hw5
  refine e_putR (pc := 11) dX2_init_11 fRX2_13 (Or.inr ⟨rfl, rfl, rfl⟩) rfl k4 ?_
  rw [← hw5]
  refine e_aload_n (pc := 14) (i := 0) dX2_init_14 rfl rfl ?_
  refine e_aload_n (pc := 15) (i := 3) dX2_init_15 rfl rfl ?_
  have k6 : wK w5 a0 = 3 := (by rw [hw5]; exact k4)
  obtain ⟨w7, hw7⟩ : ∃ w7 : Wd, w7 = sR w5 2 2 a0 a3 := ⟨_, rfl⟩
  replace hv := hv w7 hw7
  refine e_putR (pc := 16) dX2_init_16 fRX2_17 (Or.inr ⟨rfl, rfl, rfl⟩) rfl k6 ?_
  rw [← hw7]
  refine e_aload_n (pc := 19) (i := 0) dX2_init_19 rfl rfl ?_
  refine e_lload (pc := 20) (i := 4) dX2_init_20 rfl ?_
  have k8 : wK w7 a0 = 3 := (by rw [hw7]; exact k6)
  obtain ⟨w9, hw9⟩ : ∃ w9 : Wd, w9 = sJ w7 2 4 a0 a4 := ⟨_, rfl⟩
  replace hv := hv w9 hw9
  refine e_putJ (pc := 22) dX2_init_22 fRX2_21 (Or.inl rfl) rfl k8 ?_
  rw [← hw9]
  refine e_aload_n (pc := 25) (i := 0) dX2_init_25 rfl rfl ?_
  refine e_iload (pc := 26) (i := 6) dX2_init_26 rfl ?_
  have k10 : wK w9 a0 = 3 := (by rw [hw9]; exact k8)
  obtain ⟨w11, hw11⟩ : ∃ w11 : Wd, w11 = sI w9 2 3 a0 a6 := ⟨_, rfl⟩
  replace hv := hv w11 hw11
  refine e_putI (pc := 28) dX2_init_28 fRX2_25 (Or.inr ⟨rfl, rfl, rfl⟩) rfl k10 ?_
  rw [← hw11]
  exact e_vreturn (pc := 31) dX2_init_31 rfl ⟨rfl, hv⟩
abbrev jX2_isBelow_2 (X : Cx) (A : Int32 → Wd → Prop) (l1 : Nat) (l2 : Nat) (w : Wd) : Prop := EJ X mX2_isBelow (vw X bX2_isBelow (qI A)) 0 0 2 [(1, vR l1), (2, vR l2)] [] w
set_option maxRecDepth 100000 in
set_option maxHeartbeats 4000000 in
theorem tX2_isBelow_2 (X : Cx) (A : Int32 → Wd → Prop) (l1 : Nat) (l2 : Nat) (w : Wd)
    (hv : ((l2 = 0) → A 0 w) ∧ ((¬ l2 = 0) → ((¬ l2 = l1) → wK w l2 = 3 ∧ jX2_isBelow_2 X A l1 (wR w 2 2 l2) w) ∧ ((l2 = l1) → A 1 w))) :
    jX2_isBelow_2 X A l1 l2 w := by
  refine e_aload_n (pc := 2) (i := 2) dX2_isBelow_2 rfl rfl ?_
  refine e_ifnull (pc := 3) (tgt := 21) dX2_isBelow_3 (by decide) (fun h1 => ?_) (fun h1 => ?_)
  · replace hv := hv.1 h1
    refine e_iconst (pc := 21) (v := 0) dX2_isBelow_21 (by decide) ?_
    exact e_zreturn (pc := 22) dX2_isBelow_22 rfl (Or.inl rfl) ⟨_, rfl, hv⟩
  · replace hv := hv.2 h1
    refine e_aload_n (pc := 6) (i := 2) dX2_isBelow_6 rfl rfl ?_
    refine e_aload_n (pc := 7) (i := 1) dX2_isBelow_7 rfl rfl ?_
    refine e_acmp_ne (pc := 8) (tgt := 13) dX2_isBelow_8 (by decide) (fun h2 => ?_) (fun h2 => ?_)
    · replace hv := hv.1 h2
      refine e_aload_n (pc := 13) (i := 2) dX2_isBelow_13 rfl rfl ?_
      have k3 := hv.1
      replace hv := hv.2
      refine e_getR (pc := 14) dX2_isBelow_14 fRX2_17 rfl k3 ?_
      refine e_astore_n (pc := 17) (i := 2) (lv' := [(1, vR l1), (2, vR (wR w 2 2 l2))]) dX2_isBelow_17 rfl (by decide) rfl ?_
      refine e_goto (pc := 18) (tgt := 2) dX2_isBelow_18 (by decide) ?_
      exact hv
    · replace hv := hv.2 h2
      refine e_iconst (pc := 11) (v := 1) dX2_isBelow_11 (by decide) ?_
      exact e_zreturn (pc := 12) dX2_isBelow_12 rfl (Or.inr rfl) ⟨_, rfl, hv⟩
set_option maxRecDepth 100000 in
set_option maxHeartbeats 4000000 in
theorem oX2_isBelow (X : Cx) (A : Int32 → Wd → Prop) (a0 : Nat) (a1 : Nat) (w : Wd)
    (hv : jX2_isBelow_2 X A a1 a0 w) :
    Ct X bX2_isBelow mX2_isBelow [vR a0, vR a1] w (qI A) := by
  refine Ct.of (lv := [(0, vR a0), (1, vR a1)]) rfl (Nat.le_of_ble_eq_true rfl) rfl ?_
  refine e_aload_n (pc := 0) (i := 0) dX2_isBelow_0 rfl rfl ?_
  refine e_astore_n (pc := 1) (i := 2) (lv' := [(0, vR a0), (1, vR a1), (2, vR a0)]) dX2_isBelow_1 rfl (by decide) rfl ?_
  exact EJ.drop [1, 2] rfl hv
abbrev jX2_recordRelease_24 (X : Cx) (A : Wd → Prop) (l0 : Nat) (l1 : Int32) (l2 : Nat) (w : Wd) : Prop := EJ X mX2_recordRelease (vw X bX2_recordRelease (qV A)) 0 0 24 [(0, vR l0), (1, vI l1), (2, vR l2)] [] w
set_option maxRecDepth 100000 in
set_option maxHeartbeats 4000000 in
theorem tX2_recordRelease_24 (X : Cx) (A : Wd → Prop) (l0 : Nat) (l1 : Int32) (l2 : Nat) (w : Wd)
    (hv : ((l1 < 0) → A w) ∧ ((¬ l1 < 0) → wK w l0 = 3 ∧ wK w (wR w 2 6 l0) = 16 ∧ (((Int32.ofNat (wL w (wR w 2 6 l0))) ≤ l1) → A w) ∧ ((¬ (Int32.ofNat (wL w (wR w 2 6 l0))) ≤ l1) → wK w l2 = 1 ∧ vp_in l1 (wL w (wR w 2 6 l0)) ∧ ∀ w7 : Wd, w7 = yR w (wR w 2 6 l0) l1.toNatClampNeg l2 → A w7))) :
    jX2_recordRelease_24 X A l0 l1 l2 w := by
  refine e_iload_n (pc := 24) (i := 1) dX2_recordRelease_24 rfl rfl ?_
  refine e_if_lt (pc := 25) (tgt := 44) dX2_recordRelease_25 (by decide) (fun h1 => ?_) (fun h1 => ?_)
  · replace hv := hv.1 h1
    exact e_vreturn (pc := 44) dX2_recordRelease_44 rfl ⟨rfl, hv⟩
  · replace hv := hv.2 h1
    refine e_iload_n (pc := 28) (i := 1) dX2_recordRelease_28 rfl rfl ?_
    refine e_aload_n (pc := 29) (i := 0) dX2_recordRelease_29 rfl rfl ?_
    have k2 := hv.1
    replace hv := hv.2
    refine e_getR (pc := 30) dX2_recordRelease_30 fRX2_28 rfl k2 ?_
    have k3 := hv.1
    replace hv := hv.2
    refine e_alen (pc := 33) dX2_recordRelease_33 (by decide) (by decide) k3 ?_
    refine e_icmp_ge (pc := 34) (tgt := 44) dX2_recordRelease_34 (by decide) (fun h4 => ?_) (fun h4 => ?_)
    · replace hv := hv.1 h4
      exact e_vreturn (pc := 44) dX2_recordRelease_44 rfl ⟨rfl, hv⟩
    · replace hv := hv.2 h4
      refine e_aload_n (pc := 37) (i := 0) dX2_recordRelease_37 rfl rfl ?_
      refine e_getR (pc := 38) dX2_recordRelease_38 fRX2_28 rfl k2 ?_
      refine e_iload_n (pc := 41) (i := 1) dX2_recordRelease_41 rfl rfl ?_
      refine e_aload_n (pc := 42) (i := 2) dX2_recordRelease_42 rfl rfl ?_
      have k5 := hv.1
      replace hv := hv.2
      have hi6 := hv.1
      replace hv := hv.2
      obtain ⟨w7, hw7⟩ : ∃ w7 : Wd, w7 = yR w (wR w 2 6 l0) l1.toNatClampNeg l2 := ⟨_, rfl⟩
      replace hv := hv w7 hw7
      refine e_aast (pc := 43) dX2_recordRelease_43 (Or.inl ⟨rfl, rfl⟩) k3 k5 hi6 ?_
      rw [← hw7]
      exact e_vreturn (pc := 44) dX2_recordRelease_44 rfl ⟨rfl, hv⟩
set_option maxRecDepth 100000 in
set_option maxHeartbeats 4000000 in
theorem oX2_recordRelease (X : Cx) (A : Wd → Prop) (a0 : Nat) (a1 : Int32) (a2 : Nat) (w : Wd)
    (hv : wK w a0 = 3 ∧ ((¬ (wR w 2 6 a0) = 0) → jX2_recordRelease_24 X A a0 a1 a2 w) ∧ (((wR w 2 6 a0) = 0) → wK w (wR w 2 1 a0) = 10 ∧ wK w (wR w 9 0 (wR w 2 1 a0)) = 4 ∧ (¬ (wI w 3 1 (wR w 9 0 (wR w 2 1 a0))) < 0 ∧ (wI w 3 1 (wR w 9 0 (wR w 2 1 a0))).toNatClampNeg ≤ 60) ∧ ∀ q5 : Nat, wK w q5 = 0 → q5 ≠ 0 → ∀ w6 : Wd, w6 = nA w 16 q5 ((wI w 3 1 (wR w 9 0 (wR w 2 1 a0))).toNatClampNeg) → ∀ w8 : Wd, w8 = sR w6 2 6 a0 q5 → jX2_recordRelease_24 X A a0 a1 a2 w8)) :
    Ct X bX2_recordRelease mX2_recordRelease [vR a0, vI a1, vR a2] w (qV A) := by
  refine Ct.of (lv := [(0, vR a0), (1, vI a1), (2, vR a2)]) rfl (Nat.le_of_ble_eq_true rfl) rfl ?_
  refine e_aload_n (pc := 0) (i := 0) dX2_recordRelease_0 rfl rfl ?_
  have k1 := hv.1
  replace hv := hv.2
  refine e_getR (pc := 1) dX2_recordRelease_1 fRX2_28 rfl k1 ?_
  refine e_ifnonnull (pc := 4) (tgt := 24) dX2_recordRelease_4 (by decide) (fun h2 => ?_) (fun h2 => ?_)
  · replace hv := hv.1 h2
    refine EJ.less (rc := 0) (rs := 0) (by decide) (by decide) ?_
    exact hv
  · replace hv := hv.2 h2
    refine e_aload_n (pc := 7) (i := 0) dX2_recordRelease_7 rfl rfl ?_
    refine e_aload_n (pc := 8) (i := 0) dX2_recordRelease_8 rfl rfl ?_
    refine e_getR (pc := 9) dX2_recordRelease_9 fRX2_13 rfl k1 ?_
    have k3 := hv.1
    replace hv := hv.2
    refine e_getR (pc := 12) dX2_recordRelease_12 fRX2_32 rfl k3 ?_
    have k4 := hv.1
    replace hv := hv.2
    refine e_getI (pc := 15) dX2_recordRelease_15 fRX2_38 rfl k4 ?_
    have hn := hv.1
    replace hv := hv.2
    refine e_newR (pc := 18) (t := 16) (N := (wI w 3 1 (wR w 9 0 (wR w 2 1 a0))).toNatClampNeg) (rc' := 0) (rs' := 60 - (wI w 3 1 (wR w 9 0 (wR w 2 1 a0))).toNatClampNeg) dX2_recordRelease_18 (Or.inl ⟨rfl, rfl⟩) (tb_a3 127 (by decide +kernel) rfl) hn.1 rfl (Nat.le_trans hn.2 (by decide)) rfl (by show 60 = _; have := hn.2; omega) (fun q5 hq5 nq5 => EJ.less (Nat.le_refl _) (Nat.zero_le _) ?_)
    obtain ⟨w6, hw6⟩ : ∃ w6 : Wd, w6 = nA w 16 q5 ((wI w 3 1 (wR w 9 0 (wR w 2 1 a0))).toNatClampNeg) := ⟨_, rfl⟩
    replace hv := hv q5 hq5 nq5 w6 hw6
    rw [← hw6]
    have k7 : wK w6 a0 = 3 := (by rw [hw6]; exact nA_old k1 hq5)
    obtain ⟨w8, hw8⟩ : ∃ w8 : Wd, w8 = sR w6 2 6 a0 q5 := ⟨_, rfl⟩
    replace hv := hv w8 hw8
    refine e_putR (pc := 21) dX2_recordRelease_21 fRX2_28 (Or.inl rfl) rfl k7 ?_
    rw [← hw8]
    exact hv
abbrev jX2_isReleased_2 (X : Cx) (A : Int32 → Wd → Prop) (l1 : Int32) (l2 : Nat) (l3 : Nat) (w : Wd) : Prop := EJ X mX2_isReleased (vw X bX2_isReleased (qI A)) 0 0 2 [(1, vI l1), (2, vR l2), (3, vR l3)] [] w
set_option maxRecDepth 100000 in
set_option maxHeartbeats 4000000 in
theorem tX2_isReleased_2 (X : Cx) (A : Int32 → Wd → Prop) (l1 : Int32) (l2 : Nat) (l3 : Nat) (w : Wd)
    (hv : ((l3 = 0) → A 0 w) ∧ ((¬ l3 = 0) → wK w l3 = 3 ∧ (((wR w 2 6 l3) = 0) → jX2_isReleased_2 X A l1 l2 (wR w 2 2 l3) w) ∧ ((¬ (wR w 2 6 l3) = 0) → ((l1 < 0) → jX2_isReleased_2 X A l1 l2 (wR w 2 2 l3) w) ∧ ((¬ l1 < 0) → wK w (wR w 2 6 l3) = 16 ∧ (((Int32.ofNat (wL w (wR w 2 6 l3))) ≤ l1) → jX2_isReleased_2 X A l1 l2 (wR w 2 2 l3) w) ∧ ((¬ (Int32.ofNat (wL w (wR w 2 6 l3))) ≤ l1) → vp_in l1 (wL w (wR w 2 6 l3)) ∧ Ct X bX0_happened mX0_happened [vR (xR w (wR w 2 6 l3) l1.toNatClampNeg), vR l2] w (qI fun x9 w8 => ((x9 = 0) → wK w8 l3 = 3 ∧ jX2_isReleased_2 X A l1 l2 (wR w8 2 2 l3) w8) ∧ ((¬ x9 = 0) → A 1 w8))))))) :
    jX2_isReleased_2 X A l1 l2 l3 w := by
  refine e_aload_n (pc := 2) (i := 3) dX2_isReleased_2 rfl rfl ?_
  refine e_ifnull (pc := 3) (tgt := 49) dX2_isReleased_3 (by decide) (fun h1 => ?_) (fun h1 => ?_)
  · replace hv := hv.1 h1
    refine e_iconst (pc := 49) (v := 0) dX2_isReleased_49 (by decide) ?_
    exact e_zreturn (pc := 50) dX2_isReleased_50 rfl (Or.inl rfl) ⟨_, rfl, hv⟩
  · replace hv := hv.2 h1
    refine e_aload_n (pc := 6) (i := 3) dX2_isReleased_6 rfl rfl ?_
    have k2 := hv.1
    replace hv := hv.2
    refine e_getR (pc := 7) dX2_isReleased_7 fRX2_28 rfl k2 ?_
    refine e_astore (pc := 10) (i := 4) (lv' := [(1, vI l1), (2, vR l2), (3, vR l3), (4, vR (wR w 2 6 l3))]) dX2_isReleased_10 (by decide) rfl ?_
    refine e_aload (pc := 12) (i := 4) dX2_isReleased_12 rfl ?_
    refine e_ifnull (pc := 14) (tgt := 41) dX2_isReleased_14 (by decide) (fun h3 => ?_) (fun h3 => ?_)
    · replace hv := hv.1 h3
      refine e_aload_n (pc := 41) (i := 3) dX2_isReleased_41 rfl rfl ?_
      refine e_getR (pc := 42) dX2_isReleased_42 fRX2_17 rfl k2 ?_
      refine e_astore_n (pc := 45) (i := 3) (lv' := [(1, vI l1), (2, vR l2), (3, vR (wR w 2 2 l3)), (4, vR (wR w 2 6 l3))]) dX2_isReleased_45 rfl (by decide) rfl ?_
      refine e_goto (pc := 46) (tgt := 2) dX2_isReleased_46 (by decide) ?_
      exact EJ.drop [1, 2, 3] rfl hv
    · replace hv := hv.2 h3
      refine e_iload_n (pc := 17) (i := 1) dX2_isReleased_17 rfl rfl ?_
      refine e_if_lt (pc := 18) (tgt := 41) dX2_isReleased_18 (by decide) (fun h4 => ?_) (fun h4 => ?_)
      · replace hv := hv.1 h4
        refine e_aload_n (pc := 41) (i := 3) dX2_isReleased_41 rfl rfl ?_
        refine e_getR (pc := 42) dX2_isReleased_42 fRX2_17 rfl k2 ?_
        refine e_astore_n (pc := 45) (i := 3) (lv' := [(1, vI l1), (2, vR l2), (3, vR (wR w 2 2 l3)), (4, vR (wR w 2 6 l3))]) dX2_isReleased_45 rfl (by decide) rfl ?_
        refine e_goto (pc := 46) (tgt := 2) dX2_isReleased_46 (by decide) ?_
        exact EJ.drop [1, 2, 3] rfl hv
      · replace hv := hv.2 h4
        refine e_iload_n (pc := 21) (i := 1) dX2_isReleased_21 rfl rfl ?_
        refine e_aload (pc := 22) (i := 4) dX2_isReleased_22 rfl ?_
        have k5 := hv.1
        replace hv := hv.2
        refine e_alen (pc := 24) dX2_isReleased_24 (by decide) (by decide) k5 ?_
        refine e_icmp_ge (pc := 25) (tgt := 41) dX2_isReleased_25 (by decide) (fun h6 => ?_) (fun h6 => ?_)
        · replace hv := hv.1 h6
          refine e_aload_n (pc := 41) (i := 3) dX2_isReleased_41 rfl rfl ?_
          refine e_getR (pc := 42) dX2_isReleased_42 fRX2_17 rfl k2 ?_
          refine e_astore_n (pc := 45) (i := 3) (lv' := [(1, vI l1), (2, vR l2), (3, vR (wR w 2 2 l3)), (4, vR (wR w 2 6 l3))]) dX2_isReleased_45 rfl (by decide) rfl ?_
          refine e_goto (pc := 46) (tgt := 2) dX2_isReleased_46 (by decide) ?_
          exact EJ.drop [1, 2, 3] rfl hv
        · replace hv := hv.2 h6
          refine e_aload (pc := 28) (i := 4) dX2_isReleased_28 rfl ?_
          refine e_iload_n (pc := 30) (i := 1) dX2_isReleased_30 rfl rfl ?_
          have hi7 := hv.1
          replace hv := hv.2
          refine e_aald (pc := 31) dX2_isReleased_31 (by decide) (by decide) k5 hi7 ?_
          refine e_aload_n (pc := 32) (i := 2) dX2_isReleased_32 rfl rfl ?_
          refine e_callSi (pc := 33) (st := []) (rc' := 0) (rs' := 0) (B' := bX0_happened) [vR (xR w (wR w 2 6 l3) l1.toNatClampNeg), vR l2] dX2_isReleased_33 vRX2_45 kX0_happened rfl rfl (Nat.le_of_ble_eq_true rfl) ⟨Nat.le_of_ble_eq_true rfl, Nat.le_of_ble_eq_true rfl⟩ rfl rfl hv (fun x9 w8 hv => ?_)
          refine e_if_eq (pc := 36) (tgt := 41) dX2_isReleased_36 (by decide) (fun h10 => ?_) (fun h10 => ?_)
          · replace hv := hv.1 h10
            refine e_aload_n (pc := 41) (i := 3) dX2_isReleased_41 rfl rfl ?_
            have k11 := hv.1
            replace hv := hv.2
            refine e_getR (pc := 42) dX2_isReleased_42 fRX2_17 rfl k11 ?_
            refine e_astore_n (pc := 45) (i := 3) (lv' := [(1, vI l1), (2, vR l2), (3, vR (wR w8 2 2 l3)), (4, vR (wR w 2 6 l3))]) dX2_isReleased_45 rfl (by decide) rfl ?_
            refine e_goto (pc := 46) (tgt := 2) dX2_isReleased_46 (by decide) ?_
            exact EJ.drop [1, 2, 3] rfl hv
          · replace hv := hv.2 h10
            refine e_iconst (pc := 39) (v := 1) dX2_isReleased_39 (by decide) ?_
            exact e_zreturn (pc := 40) dX2_isReleased_40 rfl (Or.inr rfl) ⟨_, rfl, hv⟩
set_option maxRecDepth 100000 in
set_option maxHeartbeats 4000000 in
theorem oX2_isReleased (X : Cx) (A : Int32 → Wd → Prop) (a0 : Nat) (a1 : Int32) (a2 : Nat) (w : Wd)
    (hv : jX2_isReleased_2 X A a1 a2 a0 w) :
    Ct X bX2_isReleased mX2_isReleased [vR a0, vI a1, vR a2] w (qI A) := by
  refine Ct.of (lv := [(0, vR a0), (1, vI a1), (2, vR a2)]) rfl (Nat.le_of_ble_eq_true rfl) rfl ?_
  refine e_aload_n (pc := 0) (i := 0) dX2_isReleased_0 rfl rfl ?_
  refine e_astore_n (pc := 1) (i := 3) (lv' := [(0, vR a0), (1, vI a1), (2, vR a2), (3, vR a0)]) dX2_isReleased_1 rfl (by decide) rfl ?_
  exact EJ.drop [1, 2, 3] rfl hv
abbrev jX2_liesOn_62 (X : Cx) (A : Int32 → Wd → Prop) (l0 : Nat) (l1 : Int32) (l2 : Nat) (l4 : Nat) (w : Wd) : Prop := EJ X mX2_liesOn (vw X bX2_liesOn (qI A)) 0 0 62 [(0, vR l0), (1, vI l1), (2, vR l2), (4, vR l4)] [] w
set_option maxRecDepth 100000 in
set_option maxHeartbeats 4000000 in
theorem tX2_liesOn_62 (X : Cx) (A : Int32 → Wd → Prop) (l0 : Nat) (l1 : Int32) (l2 : Nat) (l4 : Nat) (w : Wd)
    (hv : ((l4 = 0) → A 0 w) ∧ ((¬ l4 = 0) → wK w l4 = 3 ∧ Ct X bX2_isBelow mX2_isBelow [vR l4, vR l0] w (qI fun x3 w2 => ((x3 = 0) → wK w2 l4 = 3 ∧ jX2_liesOn_62 X A l0 l1 l2 (wR w2 2 8 l4) w2) ∧ ((¬ x3 = 0) → wK w2 l4 = 3 ∧ Ct X bX2_isReleased mX2_isReleased [vR l4, vI l1, vR l2] w2 (qI fun x8 w7 => ((¬ x8 = 0) → wK w7 l4 = 3 ∧ jX2_liesOn_62 X A l0 l1 l2 (wR w7 2 8 l4) w7) ∧ ((x8 = 0) → A 1 w7)))))) :
    jX2_liesOn_62 X A l0 l1 l2 l4 w := by
  refine e_aload (pc := 62) (i := 4) dX2_liesOn_62 rfl ?_
  refine e_ifnull (pc := 64) (tgt := 98) dX2_liesOn_64 (by decide) (fun h1 => ?_) (fun h1 => ?_)
  · replace hv := hv.1 h1
    refine e_iconst (pc := 98) (v := 0) dX2_liesOn_98 (by decide) ?_
    exact e_zreturn (pc := 99) dX2_liesOn_99 rfl (Or.inl rfl) ⟨_, rfl, hv⟩
  · replace hv := hv.2 h1
    refine e_aload (pc := 67) (i := 4) dX2_liesOn_67 rfl ?_
    refine e_aload_n (pc := 69) (i := 0) dX2_liesOn_69 rfl rfl ?_
    have k4 := hv.1
    replace hv := hv.2
    refine e_callVi (pc := 70) (ci := 2) (st := []) (rc' := 0) (rs' := 0) (B' := bX2_isBelow) [vR l0] dX2_liesOn_70 vRX2_66 kX2_isBelow (by decide) rfl k4 rfl rfl (Nat.le_of_ble_eq_true rfl) ⟨Nat.le_of_ble_eq_true rfl, Nat.le_of_ble_eq_true rfl⟩ rfl rfl hv (fun x3 w2 hv => ?_)
    refine e_if_eq (pc := 73) (tgt := 88) dX2_liesOn_73 (by decide) (fun h5 => ?_) (fun h5 => ?_)
    · replace hv := hv.1 h5
      refine e_aload (pc := 88) (i := 4) dX2_liesOn_88 rfl ?_
      have k6 := hv.1
      replace hv := hv.2
      refine e_getR (pc := 90) dX2_liesOn_90 fRX2_74 rfl k6 ?_
      refine e_astore (pc := 93) (i := 4) (lv' := [(0, vR l0), (1, vI l1), (2, vR l2), (4, vR (wR w2 2 8 l4))]) dX2_liesOn_93 (by decide) rfl ?_
      refine e_goto (pc := 95) (tgt := 62) dX2_liesOn_95 (by decide) ?_
      exact hv
    · replace hv := hv.2 h5
      refine e_aload (pc := 76) (i := 4) dX2_liesOn_76 rfl ?_
      refine e_iload_n (pc := 78) (i := 1) dX2_liesOn_78 rfl rfl ?_
      refine e_aload_n (pc := 79) (i := 2) dX2_liesOn_79 rfl rfl ?_
      have k9 := hv.1
      replace hv := hv.2
      refine e_callVi (pc := 80) (ci := 2) (st := []) (rc' := 0) (rs' := 0) (B' := bX2_isReleased) [vI l1, vR l2] dX2_liesOn_80 vRX2_70 kX2_isReleased (by decide) rfl k9 rfl rfl (Nat.le_of_ble_eq_true rfl) ⟨Nat.le_of_ble_eq_true rfl, Nat.le_of_ble_eq_true rfl⟩ rfl rfl hv (fun x8 w7 hv => ?_)
      refine e_if_ne (pc := 83) (tgt := 88) dX2_liesOn_83 (by decide) (fun h10 => ?_) (fun h10 => ?_)
      · replace hv := hv.1 h10
        refine e_aload (pc := 88) (i := 4) dX2_liesOn_88 rfl ?_
        have k11 := hv.1
        replace hv := hv.2
        refine e_getR (pc := 90) dX2_liesOn_90 fRX2_74 rfl k11 ?_
        refine e_astore (pc := 93) (i := 4) (lv' := [(0, vR l0), (1, vI l1), (2, vR l2), (4, vR (wR w7 2 8 l4))]) dX2_liesOn_93 (by decide) rfl ?_
        refine e_goto (pc := 95) (tgt := 62) dX2_liesOn_95 (by decide) ?_
        exact hv
      · replace hv := hv.2 h10
        refine e_iconst (pc := 86) (v := 1) dX2_liesOn_86 (by decide) ?_
        exact e_zreturn (pc := 87) dX2_liesOn_87 rfl (Or.inr rfl) ⟨_, rfl, hv⟩
set_option maxRecDepth 100000 in
set_option maxHeartbeats 4000000 in
theorem oX2_liesOn (X : Cx) (A : Int32 → Wd → Prop) (a0 : Nat) (a1 : Int32) (a2 : Nat) (w : Wd)
    (hv : wK w a0 = 3 ∧ wK w (wR w 2 1 a0) = 10 ∧ wK w (wR w 9 0 (wR w 2 1 a0)) = 4 ∧ Ct X bX3_hasParcel mX3_hasParcel [vR (wR w 9 0 (wR w 2 1 a0)), vI a1] w (qI fun x4 w3 => ((x4 = 0) → A 0 w3) ∧ ((¬ x4 = 0) → wK w3 (wR w 9 0 (wR w 2 1 a0)) = 4 ∧ Ct X bX3_isTorn mX3_isTorn [vR (wR w 9 0 (wR w 2 1 a0)), vI a1] w3 (qI fun x8 w7 => ((¬ x8 = 0) → A 0 w7) ∧ ((x8 = 0) → wK w7 a0 = 3 ∧ wK w7 (wR w7 2 1 a0) = 10 ∧ (((lg_cmp ((((wJ w7 9 1 (wR w7 2 1 a0)).toUInt64 >>> (a1.toInt64.toUInt64 &&& Int64.toUInt64 63)).toInt64) &&& 1) 0) = 0) → A 0 w7) ∧ ((¬ (lg_cmp ((((wJ w7 9 1 (wR w7 2 1 a0)).toUInt64 >>> (a1.toInt64.toUInt64 &&& Int64.toUInt64 63)).toInt64) &&& 1) 0) = 0) → Ct X bX9_livesAt mX9_livesAt [vR (wR w7 2 1 a0), vR a2] w7 (qI fun x15 w14 => ((¬ x15 = 0) → wK w14 a0 = 3 ∧ wK w14 (wR w14 2 1 a0) = 10 ∧ jX2_liesOn_62 X A a0 a1 a2 (wR w14 9 9 (wR w14 2 1 a0)) w14) ∧ ((x15 = 0) → A 0 w14)))))))) :
    Ct X bX2_liesOn mX2_liesOn [vR a0, vI a1, vR a2] w (qI A) := by
  refine Ct.of (lv := [(0, vR a0), (1, vI a1), (2, vR a2)]) rfl (Nat.le_of_ble_eq_true rfl) rfl ?_
  refine e_aload_n (pc := 0) (i := 0) dX2_liesOn_0 rfl rfl ?_
  have k1 := hv.1
  replace hv := hv.2
  refine e_getR (pc := 1) dX2_liesOn_1 fRX2_13 rfl k1 ?_
  have k2 := hv.1
  replace hv := hv.2
  refine e_getR (pc := 4) dX2_liesOn_4 fRX2_32 rfl k2 ?_
  refine e_astore_n (pc := 7) (i := 3) (lv' := [(0, vR a0), (1, vI a1), (2, vR a2), (3, vR (wR w 9 0 (wR w 2 1 a0)))]) dX2_liesOn_7 rfl (by decide) rfl ?_
  refine e_aload_n (pc := 8) (i := 3) dX2_liesOn_8 rfl rfl ?_
  refine e_iload_n (pc := 9) (i := 1) dX2_liesOn_9 rfl rfl ?_
  have k5 := hv.1
  replace hv := hv.2
  refine e_callVi (pc := 10) (ci := 3) (st := []) (rc' := 0) (rs' := 0) (B' := bX3_hasParcel) [vI a1] dX2_liesOn_10 vRX2_49 kX3_hasParcel (by decide) rfl k5 rfl rfl (Nat.le_of_ble_eq_true rfl) ⟨Nat.le_of_ble_eq_true rfl, Nat.le_of_ble_eq_true rfl⟩ rfl rfl hv (fun x4 w3 hv => ?_)
  refine e_if_eq (pc := 13) (tgt := 51) dX2_liesOn_13 (by decide) (fun h6 => ?_) (fun h6 => ?_)
  · replace hv := hv.1 h6
    refine e_iconst (pc := 51) (v := 0) dX2_liesOn_51 (by decide) ?_
    exact e_zreturn (pc := 52) dX2_liesOn_52 rfl (Or.inl rfl) ⟨_, rfl, hv⟩
  · replace hv := hv.2 h6
    refine e_aload_n (pc := 16) (i := 3) dX2_liesOn_16 rfl rfl ?_
    refine e_iload_n (pc := 17) (i := 1) dX2_liesOn_17 rfl rfl ?_
    have k9 := hv.1
    replace hv := hv.2
    refine e_callVi (pc := 18) (ci := 3) (st := []) (rc' := 0) (rs' := 0) (B' := bX3_isTorn) [vI a1] dX2_liesOn_18 vRX2_53 kX3_isTorn (by decide) rfl k9 rfl rfl (Nat.le_of_ble_eq_true rfl) ⟨Nat.le_of_ble_eq_true rfl, Nat.le_of_ble_eq_true rfl⟩ rfl rfl hv (fun x8 w7 hv => ?_)
    refine e_if_ne (pc := 21) (tgt := 51) dX2_liesOn_21 (by decide) (fun h10 => ?_) (fun h10 => ?_)
    · replace hv := hv.1 h10
      refine e_iconst (pc := 51) (v := 0) dX2_liesOn_51 (by decide) ?_
      exact e_zreturn (pc := 52) dX2_liesOn_52 rfl (Or.inl rfl) ⟨_, rfl, hv⟩
    · replace hv := hv.2 h10
      refine e_aload_n (pc := 24) (i := 0) dX2_liesOn_24 rfl rfl ?_
      have k11 := hv.1
      replace hv := hv.2
      refine e_getR (pc := 25) dX2_liesOn_25 fRX2_13 rfl k11 ?_
      have k12 := hv.1
      replace hv := hv.2
      refine e_getJ (pc := 28) dX2_liesOn_28 fRX2_56 rfl k12 ?_
      refine e_iload_n (pc := 31) (i := 1) dX2_liesOn_31 rfl rfl ?_
      refine e_lushr (pc := 32) dX2_liesOn_32 ?_
      refine e_lconst (pc := 33) (v := 1) dX2_liesOn_33 (by decide) ?_
      refine e_land (pc := 34) dX2_liesOn_34 ?_
      refine e_lconst (pc := 35) (v := 0) dX2_liesOn_35 (by decide) ?_
      refine e_lcmp (pc := 36) dX2_liesOn_36 ?_
      refine e_if_eq (pc := 37) (tgt := 51) dX2_liesOn_37 (by decide) (fun h13 => ?_) (fun h13 => ?_)
      · replace hv := hv.1 h13
        refine e_iconst (pc := 51) (v := 0) dX2_liesOn_51 (by decide) ?_
        exact e_zreturn (pc := 52) dX2_liesOn_52 rfl (Or.inl rfl) ⟨_, rfl, hv⟩
      · replace hv := hv.2 h13
        refine e_aload_n (pc := 40) (i := 0) dX2_liesOn_40 rfl rfl ?_
        refine e_getR (pc := 41) dX2_liesOn_41 fRX2_13 rfl k11 ?_
        refine e_aload_n (pc := 44) (i := 2) dX2_liesOn_44 rfl rfl ?_
        refine e_callVi (pc := 45) (ci := 9) (st := []) (rc' := 0) (rs' := 0) (B' := bX9_livesAt) [vR a2] dX2_liesOn_45 vRX2_59 kX9_livesAt (by decide) rfl k12 rfl rfl (Nat.le_of_ble_eq_true rfl) ⟨Nat.le_of_ble_eq_true rfl, Nat.le_of_ble_eq_true rfl⟩ rfl rfl hv (fun x15 w14 hv => ?_)
        refine e_if_ne (pc := 48) (tgt := 53) dX2_liesOn_48 (by decide) (fun h16 => ?_) (fun h16 => ?_)
        · replace hv := hv.1 h16
          refine e_aload_n (pc := 53) (i := 0) dX2_liesOn_53 rfl rfl ?_
          have k17 := hv.1
          replace hv := hv.2
          refine e_getR (pc := 54) dX2_liesOn_54 fRX2_13 rfl k17 ?_
          have k18 := hv.1
          replace hv := hv.2
          refine e_getR (pc := 57) dX2_liesOn_57 fRX2_63 rfl k18 ?_
          refine e_astore (pc := 60) (i := 4) (lv' := [(0, vR a0), (1, vI a1), (2, vR a2), (3, vR (wR w 9 0 (wR w 2 1 a0))), (4, vR (wR w14 9 9 (wR w14 2 1 a0)))]) dX2_liesOn_60 (by decide) rfl ?_
          exact EJ.drop [0, 1, 2, 4] rfl hv
        · replace hv := hv.2 h16
          refine e_iconst (pc := 51) (v := 0) dX2_liesOn_51 (by decide) ?_
          exact e_zreturn (pc := 52) dX2_liesOn_52 rfl (Or.inl rfl) ⟨_, rfl, hv⟩
set_option maxRecDepth 100000 in
set_option maxHeartbeats 4000000 in
theorem oX3_init (X : Cx) (A : Wd → Prop) (a0 : Nat) (a1 : Int32) (a2 : Int32) (w : Wd)
    (hv : wK w a0 ≠ 0 ∧ wK w a0 = 4 ∧ ∀ w3 : Wd, w3 = sI w 3 0 a0 a1 → ∀ w5 : Wd, w5 = sI w3 3 1 a0 a2 → A w5) :
    Ct X bX3_init mX3_init [vR a0, vI a1, vI a2] w (qV A) := by
  refine Ct.of (lv := [(0, vR a0), (1, vI a1), (2, vI a2)]) rfl (Nat.le_of_ble_eq_true rfl) rfl ?_
  refine e_aload_n (pc := 0) (i := 0) dX3_init_0 rfl rfl ?_
  have k1 := hv.1
  replace hv := hv.2
  refine e_objInit (pc := 1) dX3_init_1 (tb_a1 121 (by decide +kernel) rfl) k1 (Nat.le_of_ble_eq_true rfl) (Nat.le_of_ble_eq_true rfl) (Nat.le_of_ble_eq_true rfl) ?_
  refine e_aload_n (pc := 4) (i := 0) dX3_init_4 rfl rfl ?_
  refine e_iload_n (pc := 5) (i := 1) dX3_init_5 rfl rfl ?_
  have k2 := hv.1
  replace hv := hv.2
  obtain ⟨w3, hw3⟩ : ∃ w3 : Wd, w3 = sI w 3 0 a0 a1 := ⟨_, rfl⟩
  replace hv := hv w3 hw3
  refine e_putI (pc := 6) dX3_init_6 fRX3_7 (Or.inr ⟨rfl, rfl, rfl⟩) rfl k2 ?_
  rw [← hw3]
  refine e_aload_n (pc := 9) (i := 0) dX3_init_9 rfl rfl ?_
  refine e_iload_n (pc := 10) (i := 2) dX3_init_10 rfl rfl ?_
  have k4 : wK w3 a0 = 4 := (by rw [hw3]; exact k2)
  obtain ⟨w5, hw5⟩ : ∃ w5 : Wd, w5 = sI w3 3 1 a0 a2 := ⟨_, rfl⟩
  replace hv := hv w5 hw5
  refine e_putI (pc := 11) dX3_init_11 fRX3_13 (Or.inr ⟨rfl, rfl, rfl⟩) rfl k4 ?_
  rw [← hw5]
  exact e_vreturn (pc := 14) dX3_init_14 rfl ⟨rfl, hv⟩
set_option maxRecDepth 100000 in
set_option maxHeartbeats 4000000 in
theorem oX3_hasParcel (X : Cx) (A : Int32 → Wd → Prop) (a0 : Nat) (a1 : Int32) (w : Wd)
    (hv : ((a1 < 0) → A 0 w) ∧ ((¬ a1 < 0) → wK w a0 = 4 ∧ (((wI w 3 1 a0) ≤ a1) → A 0 w) ∧ ((¬ (wI w 3 1 a0) ≤ a1) → A 1 w))) :
    Ct X bX3_hasParcel mX3_hasParcel [vR a0, vI a1] w (qI A) := by
  refine Ct.of (lv := [(0, vR a0), (1, vI a1)]) rfl (Nat.le_of_ble_eq_true rfl) rfl ?_
  refine e_iload_n (pc := 0) (i := 1) dX3_hasParcel_0 rfl rfl ?_
  refine e_if_lt (pc := 1) (tgt := 16) dX3_hasParcel_1 (by decide) (fun h1 => ?_) (fun h1 => ?_)
  · replace hv := hv.1 h1
    refine e_iconst (pc := 16) (v := 0) dX3_hasParcel_16 (by decide) ?_
    exact e_zreturn (pc := 17) dX3_hasParcel_17 rfl (Or.inl rfl) ⟨_, rfl, hv⟩
  · replace hv := hv.2 h1
    refine e_iload_n (pc := 4) (i := 1) dX3_hasParcel_4 rfl rfl ?_
    refine e_aload_n (pc := 5) (i := 0) dX3_hasParcel_5 rfl rfl ?_
    have k2 := hv.1
    replace hv := hv.2
    refine e_getI (pc := 6) dX3_hasParcel_6 fRX3_13 rfl k2 ?_
    refine e_icmp_ge (pc := 9) (tgt := 16) dX3_hasParcel_9 (by decide) (fun h3 => ?_) (fun h3 => ?_)
    · replace hv := hv.1 h3
      refine e_iconst (pc := 16) (v := 0) dX3_hasParcel_16 (by decide) ?_
      exact e_zreturn (pc := 17) dX3_hasParcel_17 rfl (Or.inl rfl) ⟨_, rfl, hv⟩
    · replace hv := hv.2 h3
      refine e_iconst (pc := 12) (v := 1) dX3_hasParcel_12 (by decide) ?_
      refine e_goto (pc := 13) (tgt := 17) dX3_hasParcel_13 (by decide) ?_
      exact e_zreturn (pc := 17) dX3_hasParcel_17 rfl (Or.inr rfl) ⟨_, rfl, hv⟩
set_option maxRecDepth 100000 in
set_option maxHeartbeats 4000000 in
theorem oX3_isTorn (X : Cx) (A : Int32 → Wd → Prop) (a0 : Nat) (a1 : Int32) (w : Wd)
    (hv : wK w a0 = 4 ∧ (((lg_cmp ((((wJ w 3 2 a0).toUInt64 >>> (a1.toInt64.toUInt64 &&& Int64.toUInt64 63)).toInt64) &&& 1) 0) = 0) → A 0 w) ∧ ((¬ (lg_cmp ((((wJ w 3 2 a0).toUInt64 >>> (a1.toInt64.toUInt64 &&& Int64.toUInt64 63)).toInt64) &&& 1) 0) = 0) → A 1 w)) :
    Ct X bX3_isTorn mX3_isTorn [vR a0, vI a1] w (qI A) := by
  refine Ct.of (lv := [(0, vR a0), (1, vI a1)]) rfl (Nat.le_of_ble_eq_true rfl) rfl ?_
  refine e_aload_n (pc := 0) (i := 0) dX3_isTorn_0 rfl rfl ?_
  have k1 := hv.1
  replace hv := hv.2
  refine e_getJ (pc := 1) dX3_isTorn_1 fRX3_16 rfl k1 ?_
  refine e_iload_n (pc := 4) (i := 1) dX3_isTorn_4 rfl rfl ?_
  refine e_lushr (pc := 5) dX3_isTorn_5 ?_
  refine e_lconst (pc := 6) (v := 1) dX3_isTorn_6 (by decide) ?_
  refine e_land (pc := 7) dX3_isTorn_7 ?_
  refine e_lconst (pc := 8) (v := 0) dX3_isTorn_8 (by decide) ?_
  refine e_lcmp (pc := 9) dX3_isTorn_9 ?_
  refine e_if_eq (pc := 10) (tgt := 17) dX3_isTorn_10 (by decide) (fun h2 => ?_) (fun h2 => ?_)
  · replace hv := hv.1 h2
    refine e_iconst (pc := 17) (v := 0) dX3_isTorn_17 (by decide) ?_
    exact e_zreturn (pc := 18) dX3_isTorn_18 rfl (Or.inl rfl) ⟨_, rfl, hv⟩
  · replace hv := hv.2 h2
    refine e_iconst (pc := 13) (v := 1) dX3_isTorn_13 (by decide) ?_
    refine e_goto (pc := 14) (tgt := 18) dX3_isTorn_14 (by decide) ?_
    exact e_zreturn (pc := 18) dX3_isTorn_18 rfl (Or.inr rfl) ⟨_, rfl, hv⟩
set_option maxRecDepth 100000 in
set_option maxHeartbeats 4000000 in
theorem oX3_tearOff (X : Cx) (A : Wd → Prop) (a0 : Nat) (a1 : Int32) (w : Wd)
    (hv : wK w a0 = 4 ∧ ∀ w2 : Wd, w2 = sJ w 3 2 a0 ((wJ w 3 2 a0) ||| ((1 : Int64) <<< (a1.toInt64 &&& 63))) → A w2) :
    Ct X bX3_tearOff mX3_tearOff [vR a0, vI a1] w (qV A) := by
  refine Ct.of (lv := [(0, vR a0), (1, vI a1)]) rfl (Nat.le_of_ble_eq_true rfl) rfl ?_
  refine e_aload_n (pc := 0) (i := 0) dX3_tearOff_0 rfl rfl ?_
  refine e_dup (pc := 1) dX3_tearOff_1 rfl ?_
  have k1 := hv.1
  replace hv := hv.2
  refine e_getJ (pc := 2) dX3_tearOff_2 fRX3_16 rfl k1 ?_
  refine e_lconst (pc := 5) (v := 1) dX3_tearOff_5 (by decide) ?_
  refine e_iload_n (pc := 6) (i := 1) dX3_tearOff_6 rfl rfl ?_
  refine e_lshl (pc := 7) dX3_tearOff_7 ?_
  refine e_lor (pc := 8) dX3_tearOff_8 ?_
  obtain ⟨w2, hw2⟩ : ∃ w2 : Wd, w2 = sJ w 3 2 a0 ((wJ w 3 2 a0) ||| ((1 : Int64) <<< (a1.toInt64 &&& 63))) := ⟨_, rfl⟩
  replace hv := hv w2 hw2
  refine e_putJ (pc := 9) dX3_tearOff_9 fRX3_16 (Or.inl rfl) rfl k1 ?_
  rw [← hw2]
  exact e_vreturn (pc := 12) dX3_tearOff_12 rfl ⟨rfl, hv⟩
set_option maxRecDepth 100000 in
set_option maxHeartbeats 4000000 in
theorem oX3_allParcels (X : Cx) (A : Int64 → Wd → Prop) (a0 : Nat) (w : Wd)
    (hv : wK w a0 = 4 ∧ A (((1 : Int64) <<< ((wI w 3 1 a0).toInt64 &&& 63)) - 1) w) :
    Ct X bX3_allParcels mX3_allParcels [vR a0] w (qJ A) := by
  refine Ct.of (lv := [(0, vR a0)]) rfl (Nat.le_of_ble_eq_true rfl) rfl ?_
  refine e_lconst (pc := 0) (v := 1) dX3_allParcels_0 (by decide) ?_
  refine e_aload_n (pc := 1) (i := 0) dX3_allParcels_1 rfl rfl ?_
  have k1 := hv.1
  replace hv := hv.2
  refine e_getI (pc := 2) dX3_allParcels_2 fRX3_13 rfl k1 ?_
  refine e_lshl (pc := 5) dX3_allParcels_5 ?_
  refine e_lconst (pc := 6) (v := 1) dX3_allParcels_6 (by decide) ?_
  refine e_lsub (pc := 7) dX3_allParcels_7 ?_
  exact e_lreturn (pc := 8) dX3_allParcels_8 rfl ⟨_, rfl, hv⟩
abbrev jX3_insert_5 (X : Cx) (A : Wd → Prop) (l0 : Nat) (l1 : Nat) (l2 : Nat) (w : Wd) : Prop := EJ X mX3_insert (vw X bX3_insert (qV A)) 0 0 5 [(0, vR l0), (1, vR l1), (2, vR l2)] [] w
abbrev jX3_insert_49 (X : Cx) (A : Wd → Prop) (l0 : Nat) (l1 : Nat) (l2 : Nat) (s0 : Nat) (w : Wd) : Prop := EJ X mX3_insert (vw X bX3_insert (qV A)) 0 0 49 [(0, vR l0), (1, vR l1), (2, vR l2)] [vR s0] w
set_option maxRecDepth 100000 in
set_option maxHeartbeats 4000000 in
theorem tX3_insert_49 (X : Cx) (A : Wd → Prop) (l0 : Nat) (l1 : Nat) (l2 : Nat) (s0 : Nat) (w : Wd)
    (hv : wK w l1 = 10 ∧ ∀ w2 : Wd, w2 = sR w 9 11 l1 l2 → ∀ w4 : Wd, w4 = sR w2 9 12 l1 s0 → ((¬ l2 = 0) → wK w4 l2 = 10 ∧ ∀ w7 : Wd, w7 = sR w4 9 12 l2 l1 → ((¬ s0 = 0) → wK w7 s0 = 10 ∧ ∀ w10 : Wd, w10 = sR w7 9 11 s0 l1 → A w10) ∧ ((s0 = 0) → wK w7 l0 = 4 ∧ ∀ w12 : Wd, w12 = sR w7 3 4 l0 l1 → A w12)) ∧ ((l2 = 0) → wK w4 l0 = 4 ∧ ∀ w14 : Wd, w14 = sR w4 3 3 l0 l1 → ((¬ s0 = 0) → wK w14 s0 = 10 ∧ ∀ w17 : Wd, w17 = sR w14 9 11 s0 l1 → A w17) ∧ ((s0 = 0) → ∀ w19 : Wd, w19 = sR w14 3 4 l0 l1 → A w19))) :
    jX3_insert_49 X A l0 l1 l2 s0 w := by
  refine e_astore_n (pc := 49) (i := 3) (lv' := [(0, vR l0), (1, vR l1), (2, vR l2), (3, vR s0)]) dX3_insert_49 rfl (by decide) rfl ?_
  refine e_aload_n (pc := 50) (i := 1) dX3_insert_50 rfl rfl ?_
  refine e_aload_n (pc := 51) (i := 2) dX3_insert_51 rfl rfl ?_
  have k1 := hv.1
  replace hv := hv.2
  obtain ⟨w2, hw2⟩ : ∃ w2 : Wd, w2 = sR w 9 11 l1 l2 := ⟨_, rfl⟩
  replace hv := hv w2 hw2
  refine e_putR (pc := 52) dX3_insert_52 fRX3_35 (Or.inl rfl) rfl k1 ?_
  rw [← hw2]
  refine e_aload_n (pc := 55) (i := 1) dX3_insert_55 rfl rfl ?_
  refine e_aload_n (pc := 56) (i := 3) dX3_insert_56 rfl rfl ?_
  have k3 : wK w2 l1 = 10 := (by rw [hw2]; exact k1)
  obtain ⟨w4, hw4⟩ : ∃ w4 : Wd, w4 = sR w2 9 12 l1 s0 := ⟨_, rfl⟩
  replace hv := hv w4 hw4
  refine e_putR (pc := 57) dX3_insert_57 fRX3_41 (Or.inl rfl) rfl k3 ?_
  rw [← hw4]
  refine e_aload_n (pc := 60) (i := 2) dX3_insert_60 rfl rfl ?_
  refine e_ifnonnull (pc := 61) (tgt := 72) dX3_insert_61 (by decide) (fun h5 => ?_) (fun h5 => ?_)
  · replace hv := hv.1 h5
    refine e_aload_n (pc := 72) (i := 2) dX3_insert_72 rfl rfl ?_
    refine e_aload_n (pc := 73) (i := 1) dX3_insert_73 rfl rfl ?_
    have k6 := hv.1
    replace hv := hv.2
    obtain ⟨w7, hw7⟩ : ∃ w7 : Wd, w7 = sR w4 9 12 l2 l1 := ⟨_, rfl⟩
    replace hv := hv w7 hw7
    refine e_putR (pc := 74) dX3_insert_74 fRX3_41 (Or.inl rfl) rfl k6 ?_
    rw [← hw7]
    refine e_aload_n (pc := 77) (i := 3) dX3_insert_77 rfl rfl ?_
    refine e_ifnonnull (pc := 78) (tgt := 89) dX3_insert_78 (by decide) (fun h8 => ?_) (fun h8 => ?_)
    · replace hv := hv.1 h8
      refine e_aload_n (pc := 89) (i := 3) dX3_insert_89 rfl rfl ?_
      refine e_aload_n (pc := 90) (i := 1) dX3_insert_90 rfl rfl ?_
      have k9 := hv.1
      replace hv := hv.2
      obtain ⟨w10, hw10⟩ : ∃ w10 : Wd, w10 = sR w7 9 11 s0 l1 := ⟨_, rfl⟩
      replace hv := hv w10 hw10
      refine e_putR (pc := 91) dX3_insert_91 fRX3_35 (Or.inl rfl) rfl k9 ?_
      rw [← hw10]
      exact e_vreturn (pc := 94) dX3_insert_94 rfl ⟨rfl, hv⟩
    · replace hv := hv.2 h8
      refine e_aload_n (pc := 81) (i := 0) dX3_insert_81 rfl rfl ?_
      refine e_aload_n (pc := 82) (i := 1) dX3_insert_82 rfl rfl ?_
      have k11 := hv.1
      replace hv := hv.2
      obtain ⟨w12, hw12⟩ : ∃ w12 : Wd, w12 = sR w7 3 4 l0 l1 := ⟨_, rfl⟩
      replace hv := hv w12 hw12
      refine e_putR (pc := 83) dX3_insert_83 fRX3_20 (Or.inl rfl) rfl k11 ?_
      rw [← hw12]
      refine e_goto (pc := 86) (tgt := 94) dX3_insert_86 (by decide) ?_
      exact e_vreturn (pc := 94) dX3_insert_94 rfl ⟨rfl, hv⟩
  · replace hv := hv.2 h5
    refine e_aload_n (pc := 64) (i := 0) dX3_insert_64 rfl rfl ?_
    refine e_aload_n (pc := 65) (i := 1) dX3_insert_65 rfl rfl ?_
    have k13 := hv.1
    replace hv := hv.2
    obtain ⟨w14, hw14⟩ : ∃ w14 : Wd, w14 = sR w4 3 3 l0 l1 := ⟨_, rfl⟩
    replace hv := hv w14 hw14
    refine e_putR (pc := 66) dX3_insert_66 fRX3_38 (Or.inl rfl) rfl k13 ?_
    rw [← hw14]
    refine e_goto (pc := 69) (tgt := 77) dX3_insert_69 (by decide) ?_
    refine e_aload_n (pc := 77) (i := 3) dX3_insert_77 rfl rfl ?_
    refine e_ifnonnull (pc := 78) (tgt := 89) dX3_insert_78 (by decide) (fun h15 => ?_) (fun h15 => ?_)
    · replace hv := hv.1 h15
      refine e_aload_n (pc := 89) (i := 3) dX3_insert_89 rfl rfl ?_
      refine e_aload_n (pc := 90) (i := 1) dX3_insert_90 rfl rfl ?_
      have k16 := hv.1
      replace hv := hv.2
      obtain ⟨w17, hw17⟩ : ∃ w17 : Wd, w17 = sR w14 9 11 s0 l1 := ⟨_, rfl⟩
      replace hv := hv w17 hw17
      refine e_putR (pc := 91) dX3_insert_91 fRX3_35 (Or.inl rfl) rfl k16 ?_
      rw [← hw17]
      exact e_vreturn (pc := 94) dX3_insert_94 rfl ⟨rfl, hv⟩
    · replace hv := hv.2 h15
      refine e_aload_n (pc := 81) (i := 0) dX3_insert_81 rfl rfl ?_
      refine e_aload_n (pc := 82) (i := 1) dX3_insert_82 rfl rfl ?_
      have k18 : wK w14 l0 = 4 := (by rw [hw14]; exact k13)
      obtain ⟨w19, hw19⟩ : ∃ w19 : Wd, w19 = sR w14 3 4 l0 l1 := ⟨_, rfl⟩
      replace hv := hv w19 hw19
      refine e_putR (pc := 83) dX3_insert_83 fRX3_20 (Or.inl rfl) rfl k18 ?_
      rw [← hw19]
      refine e_goto (pc := 86) (tgt := 94) dX3_insert_86 (by decide) ?_
      exact e_vreturn (pc := 94) dX3_insert_94 rfl ⟨rfl, hv⟩
set_option maxRecDepth 100000 in
set_option maxHeartbeats 4000000 in
theorem tX3_insert_5 (X : Cx) (A : Wd → Prop) (l0 : Nat) (l1 : Nat) (l2 : Nat) (w : Wd)
    (hv : ((l2 = 0) → ((¬ l2 = 0) → wK w l2 = 10 ∧ jX3_insert_49 X A l0 l1 l2 (wR w 9 12 l2) w) ∧ ((l2 = 0) → wK w l0 = 4 ∧ jX3_insert_49 X A l0 l1 l2 (wR w 3 3 l0) w)) ∧ ((¬ l2 = 0) → wK w l2 = 10 ∧ wK w (wR w 9 2 l2) = 1 ∧ wK w l1 = 10 ∧ wK w (wR w 9 2 l1) = 1 ∧ (((wI w 0 0 (wR w 9 2 l2)) ≤ (wI w 0 0 (wR w 9 2 l1))) → ((¬ l2 = 0) → jX3_insert_49 X A l0 l1 l2 (wR w 9 12 l2) w) ∧ ((l2 = 0) → wK w l0 = 4 ∧ jX3_insert_49 X A l0 l1 l2 (wR w 3 3 l0) w)) ∧ ((¬ (wI w 0 0 (wR w 9 2 l2)) ≤ (wI w 0 0 (wR w 9 2 l1))) → jX3_insert_5 X A l0 l1 (wR w 9 11 l2) w))) :
    jX3_insert_5 X A l0 l1 l2 w := by
  refine e_aload_n (pc := 5) (i := 2) dX3_insert_5 rfl rfl ?_
  refine e_ifnull (pc := 6) (tgt := 34) dX3_insert_6 (by decide) (fun h1 => ?_) (fun h1 => ?_)
  · replace hv := hv.1 h1
    refine e_aload_n (pc := 34) (i := 2) dX3_insert_34 rfl rfl ?_
    refine e_ifnonnull (pc := 35) (tgt := 45) dX3_insert_35 (by decide) (fun h2 => ?_) (fun h2 => ?_)
    · replace hv := hv.1 h2
      refine e_aload_n (pc := 45) (i := 2) dX3_insert_45 rfl rfl ?_
      have k3 := hv.1
      replace hv := hv.2
      refine e_getR (pc := 46) dX3_insert_46 fRX3_41 rfl k3 ?_
      exact hv
    · replace hv := hv.2 h2
      refine e_aload_n (pc := 38) (i := 0) dX3_insert_38 rfl rfl ?_
      have k4 := hv.1
      replace hv := hv.2
      refine e_getR (pc := 39) dX3_insert_39 fRX3_38 rfl k4 ?_
      refine e_goto (pc := 42) (tgt := 49) dX3_insert_42 (by decide) ?_
      exact hv
  · replace hv := hv.2 h1
    refine e_aload_n (pc := 9) (i := 2) dX3_insert_9 rfl rfl ?_
    have k5 := hv.1
    replace hv := hv.2
    refine e_getR (pc := 10) dX3_insert_10 fRX3_24 rfl k5 ?_
    have k6 := hv.1
    replace hv := hv.2
    refine e_getI (pc := 13) dX3_insert_13 fRX3_30 rfl k6 ?_
    refine e_aload_n (pc := 16) (i := 1) dX3_insert_16 rfl rfl ?_
    have k7 := hv.1
    replace hv := hv.2
    refine e_getR (pc := 17) dX3_insert_17 fRX3_24 rfl k7 ?_
    have k8 := hv.1
    replace hv := hv.2
    refine e_getI (pc := 20) dX3_insert_20 fRX3_30 rfl k8 ?_
    refine e_icmp_le (pc := 23) (tgt := 34) dX3_insert_23 (by decide) (fun h9 => ?_) (fun h9 => ?_)
    · replace hv := hv.1 h9
      refine e_aload_n (pc := 34) (i := 2) dX3_insert_34 rfl rfl ?_
      refine e_ifnonnull (pc := 35) (tgt := 45) dX3_insert_35 (by decide) (fun h10 => ?_) (fun h10 => ?_)
      · replace hv := hv.1 h10
        refine e_aload_n (pc := 45) (i := 2) dX3_insert_45 rfl rfl ?_
        refine e_getR (pc := 46) dX3_insert_46 fRX3_41 rfl k5 ?_
        exact hv
      · replace hv := hv.2 h10
        refine e_aload_n (pc := 38) (i := 0) dX3_insert_38 rfl rfl ?_
        have k11 := hv.1
        replace hv := hv.2
        refine e_getR (pc := 39) dX3_insert_39 fRX3_38 rfl k11 ?_
        refine e_goto (pc := 42) (tgt := 49) dX3_insert_42 (by decide) ?_
        exact hv
    · replace hv := hv.2 h9
      refine e_aload_n (pc := 26) (i := 2) dX3_insert_26 rfl rfl ?_
      refine e_getR (pc := 27) dX3_insert_27 fRX3_35 rfl k5 ?_
      refine e_astore_n (pc := 30) (i := 2) (lv' := [(0, vR l0), (1, vR l1), (2, vR (wR w 9 11 l2))]) dX3_insert_30 rfl (by decide) rfl ?_
      refine e_goto (pc := 31) (tgt := 5) dX3_insert_31 (by decide) ?_
      exact hv
set_option maxRecDepth 100000 in
set_option maxHeartbeats 4000000 in
theorem oX3_insert (X : Cx) (A : Wd → Prop) (a0 : Nat) (a1 : Nat) (w : Wd)
    (hv : wK w a0 = 4 ∧ jX3_insert_5 X A a0 a1 (wR w 3 4 a0) w) :
    Ct X bX3_insert mX3_insert [vR a0, vR a1] w (qV A) := by
  refine Ct.of (lv := [(0, vR a0), (1, vR a1)]) rfl (Nat.le_of_ble_eq_true rfl) rfl ?_
  refine e_aload_n (pc := 0) (i := 0) dX3_insert_0 rfl rfl ?_
  have k1 := hv.1
  replace hv := hv.2
  refine e_getR (pc := 1) dX3_insert_1 fRX3_20 rfl k1 ?_
  refine e_astore_n (pc := 4) (i := 2) (lv' := [(0, vR a0), (1, vR a1), (2, vR (wR w 3 4 a0))]) dX3_insert_4 rfl (by decide) rfl ?_
  exact hv
set_option maxRecDepth 100000 in
set_option maxHeartbeats 4000000 in
theorem oX4_init (X : Cx) (A : Wd → Prop) (a0 : Nat) (a1 : Int32) (a2 : Int32) (w : Wd)
    (hv : wK w a0 ≠ 0 ∧ wK w a0 = 5 ∧ ∀ w3 : Wd, w3 = sI w 4 0 a0 a1 → ∀ w5 : Wd, w5 = sI w3 4 1 a0 a2 → A w5) :
    Ct X bX4_init mX4_init [vR a0, vI a1, vI a2] w (qV A) := by
  refine Ct.of (lv := [(0, vR a0), (1, vI a1), (2, vI a2)]) rfl (Nat.le_of_ble_eq_true rfl) rfl ?_
  refine e_aload_n (pc := 0) (i := 0) dX4_init_0 rfl rfl ?_
  have k1 := hv.1
  replace hv := hv.2
  refine e_objInit (pc := 1) dX4_init_1 (tb_a1 49 (by decide +kernel) rfl) k1 (Nat.le_of_ble_eq_true rfl) (Nat.le_of_ble_eq_true rfl) (Nat.le_of_ble_eq_true rfl) ?_
  refine e_aload_n (pc := 4) (i := 0) dX4_init_4 rfl rfl ?_
  refine e_iload_n (pc := 5) (i := 1) dX4_init_5 rfl rfl ?_
  have k2 := hv.1
  replace hv := hv.2
  obtain ⟨w3, hw3⟩ : ∃ w3 : Wd, w3 = sI w 4 0 a0 a1 := ⟨_, rfl⟩
  replace hv := hv w3 hw3
  refine e_putI (pc := 6) dX4_init_6 fRX4_7 (Or.inr ⟨rfl, rfl, rfl⟩) rfl k2 ?_
  rw [← hw3]
  refine e_aload_n (pc := 9) (i := 0) dX4_init_9 rfl rfl ?_
  refine e_iload_n (pc := 10) (i := 2) dX4_init_10 rfl rfl ?_
  have k4 : wK w3 a0 = 5 := (by rw [hw3]; exact k2)
  obtain ⟨w5, hw5⟩ : ∃ w5 : Wd, w5 = sI w3 4 1 a0 a2 := ⟨_, rfl⟩
  replace hv := hv w5 hw5
  refine e_putI (pc := 11) dX4_init_11 fRX4_13 (Or.inr ⟨rfl, rfl, rfl⟩) rfl k4 ?_
  rw [← hw5]
  exact e_vreturn (pc := 14) dX4_init_14 rfl ⟨rfl, hv⟩
set_option maxRecDepth 100000 in
set_option maxHeartbeats 4000000 in
theorem oX5_init (X : Cx) (A : Wd → Prop) (a0 : Nat) (a1 : Int32) (a2 : Nat) (a3 : Nat) (a4 : Int64) (a6 : Nat) (w : Wd)
    (hv : wK w a0 ≠ 0 ∧ wK w a0 = 6 ∧ ∀ w3 : Wd, w3 = sI w 5 0 a0 a1 → ∀ w5 : Wd, w5 = sR w3 5 1 a0 a2 → ∀ w7 : Wd, w7 = sR w5 5 2 a0 a3 → ∀ w9 : Wd, w9 = sJ w7 5 3 a0 a4 → ∀ w11 : Wd, w11 = sR w9 5 4 a0 a6 → A w11) :
    Ct X bX5_init mX5_init [vR a0, vI a1, vR a2, vR a3, vJ a4, vR a6] w (qV A) := by
  refine Ct.of (lv := [(0, vR a0), (1, vI a1), (2, vR a2), (3, vR a3), (4, vJ a4), (6, vR a6)]) rfl (Nat.le_of_ble_eq_true rfl) rfl ?_
  refine e_aload_n (pc := 0) (i := 0) dX5_init_0 rfl rfl ?_
  have k1 := hv.1
  replace hv := hv.2
  refine e_objInit (pc := 1) dX5_init_1 (tb_a3 57 (by decide +kernel) rfl) k1 (Nat.le_of_ble_eq_true rfl) (Nat.le_of_ble_eq_true rfl) (Nat.le_of_ble_eq_true rfl) ?_
  refine e_aload_n (pc := 4) (i := 0) dX5_init_4 rfl rfl ?_
  refine e_iload_n (pc := 5) (i := 1) dX5_init_5 rfl rfl ?_
  have k2 := hv.1
  replace hv := hv.2
  obtain ⟨w3, hw3⟩ : ∃ w3 : Wd, w3 = sI w 5 0 a0 a1 := ⟨_, rfl⟩
  replace hv := hv w3 hw3
  refine e_putI (pc := 6) dX5_init_6 fRX5_7 (Or.inr ⟨rfl, rfl, rfl⟩) rfl k2 ?_
  rw [← hw3]
  refine e_aload_n (pc := 9) (i := 0) dX5_init_9 rfl rfl ?_
  refine e_aload_n (pc := 10) (i := 2) dX5_init_10 rfl rfl ?_
  have k4 : wK w3 a0 = 6 := (by rw [hw3]; exact k2)
  obtain ⟨w5, hw5⟩ : ∃ w5 : Wd, w5 = sR w3 5 1 a0 a2 := ⟨_, rfl⟩
  replace hv := hv w5 hw5
  refine e_putR (pc := 11) dX5_init_11 fRX5_13 (Or.inr ⟨rfl, rfl, rfl⟩) rfl k4 ?_
  rw [← hw5]
  refine e_aload_n (pc := 14) (i := 0) dX5_init_14 rfl rfl ?_
  refine e_aload_n (pc := 15) (i := 3) dX5_init_15 rfl rfl ?_
  have k6 : wK w5 a0 = 6 := (by rw [hw5]; exact k4)
  obtain ⟨w7, hw7⟩ : ∃ w7 : Wd, w7 = sR w5 5 2 a0 a3 := ⟨_, rfl⟩
  replace hv := hv w7 hw7
  refine e_putR (pc := 16) dX5_init_16 fRX5_17 (Or.inr ⟨rfl, rfl, rfl⟩) rfl k6 ?_
  rw [← hw7]
  refine e_aload_n (pc := 19) (i := 0) dX5_init_19 rfl rfl ?_
  refine e_lload (pc := 20) (i := 4) dX5_init_20 rfl ?_
  have k8 : wK w7 a0 = 6 := (by rw [hw7]; exact k6)
  obtain ⟨w9, hw9⟩ : ∃ w9 : Wd, w9 = sJ w7 5 3 a0 a4 := ⟨_, rfl⟩
  replace hv := hv w9 hw9
  refine e_putJ (pc := 22) dX5_init_22 fRX5_20 (Or.inr ⟨rfl, rfl, rfl⟩) rfl k8 ?_
  rw [← hw9]
  refine e_aload_n (pc := 25) (i := 0) dX5_init_25 rfl rfl ?_
  refine e_aload (pc := 26) (i := 6) dX5_init_26 rfl ?_
  have k10 : wK w9 a0 = 6 := (by rw [hw9]; exact k8)
  obtain ⟨w11, hw11⟩ : ∃ w11 : Wd, w11 = sR w9 5 4 a0 a6 := ⟨_, rfl⟩
  replace hv := hv w11 hw11
  refine e_putR (pc := 28) dX5_init_28 fRX5_24 (Or.inr ⟨rfl, rfl, rfl⟩) rfl k10 ?_
  rw [← hw11]
  exact e_vreturn (pc := 31) dX5_init_31 rfl ⟨rfl, hv⟩
set_option maxRecDepth 100000 in
set_option maxHeartbeats 4000000 in
theorem oX5_countsOn (X : Cx) (A : Int32 → Wd → Prop) (a0 : Nat) (a1 : Nat) (a2 : Int32) (a3 : Nat) (w : Wd)
    (hv : wK w a0 = 6 ∧ wK w (wR w 5 1 a0) = 3 ∧ wK w (wR w 2 1 (wR w 5 1 a0)) = 10 ∧ ((¬ (wR w 9 0 (wR w 2 1 (wR w 5 1 a0))) = a1) → A 0 w) ∧ (((wR w 9 0 (wR w 2 1 (wR w 5 1 a0))) = a1) → Ct X bX0_happened mX0_happened [vR (wR w 5 4 a0), vR a3] w (qI fun x6 w5 => ((x6 = 0) → A 0 w5) ∧ ((¬ x6 = 0) → wK w5 a0 = 6 ∧ Ct X bX0_happened mX0_happened [vR (wR w5 5 5 a0), vR a3] w5 (qI fun x10 w9 => ((¬ x10 = 0) → A 0 w9) ∧ ((x10 = 0) → wK w9 a0 = 6 ∧ wK w9 (wR w9 5 1 a0) = 3 ∧ Ct X bX2_liesOn mX2_liesOn [vR (wR w9 5 1 a0), vI a2, vR a3] w9 (qI fun x14 w13 => ((x14 = 0) → A 0 w13) ∧ ((¬ x14 = 0) → wK w13 a0 = 6 ∧ wK w13 (wR w13 5 2 a0) = 3 ∧ Ct X bX2_liesOn mX2_liesOn [vR (wR w13 5 2 a0), vI a2, vR a3] w13 (qI fun x19 w18 => ((x19 = 0) → A 0 w18) ∧ ((¬ x19 = 0) → A 1 w18)))))))))) :
    Ct X bX5_countsOn mX5_countsOn [vR a0, vR a1, vI a2, vR a3] w (qI A) := by
  refine Ct.of (lv := [(0, vR a0), (1, vR a1), (2, vI a2), (3, vR a3)]) rfl (Nat.le_of_ble_eq_true rfl) rfl ?_
  refine e_aload_n (pc := 0) (i := 0) dX5_countsOn_0 rfl rfl ?_
  have k1 := hv.1
  replace hv := hv.2
  refine e_getR (pc := 1) dX5_countsOn_1 fRX5_13 rfl k1 ?_
  have k2 := hv.1
  replace hv := hv.2
  refine e_getR (pc := 4) dX5_countsOn_4 fRX5_28 rfl k2 ?_
  have k3 := hv.1
  replace hv := hv.2
  refine e_getR (pc := 7) dX5_countsOn_7 fRX5_34 rfl k3 ?_
  refine e_aload_n (pc := 10) (i := 1) dX5_countsOn_10 rfl rfl ?_
  refine e_acmp_ne (pc := 11) (tgt := 64) dX5_countsOn_11 (by decide) (fun h4 => ?_) (fun h4 => ?_)
  · replace hv := hv.1 h4
    refine e_iconst (pc := 64) (v := 0) dX5_countsOn_64 (by decide) ?_
    exact e_zreturn (pc := 65) dX5_countsOn_65 rfl (Or.inl rfl) ⟨_, rfl, hv⟩
  · replace hv := hv.2 h4
    refine e_aload_n (pc := 14) (i := 0) dX5_countsOn_14 rfl rfl ?_
    refine e_getR (pc := 15) dX5_countsOn_15 fRX5_24 rfl k1 ?_
    refine e_aload_n (pc := 18) (i := 3) dX5_countsOn_18 rfl rfl ?_
    refine e_callSi (pc := 19) (st := []) (rc' := 0) (rs' := 0) (B' := bX0_happened) [vR (wR w 5 4 a0), vR a3] dX5_countsOn_19 vRX5_40 kX0_happened rfl rfl (Nat.le_of_ble_eq_true rfl) ⟨Nat.le_of_ble_eq_true rfl, Nat.le_of_ble_eq_true rfl⟩ rfl rfl hv (fun x6 w5 hv => ?_)
    refine e_if_eq (pc := 22) (tgt := 64) dX5_countsOn_22 (by decide) (fun h7 => ?_) (fun h7 => ?_)
    · replace hv := hv.1 h7
      refine e_iconst (pc := 64) (v := 0) dX5_countsOn_64 (by decide) ?_
      exact e_zreturn (pc := 65) dX5_countsOn_65 rfl (Or.inl rfl) ⟨_, rfl, hv⟩
    · replace hv := hv.2 h7
      refine e_aload_n (pc := 25) (i := 0) dX5_countsOn_25 rfl rfl ?_
      have k8 := hv.1
      replace hv := hv.2
      refine e_getR (pc := 26) dX5_countsOn_26 fRX5_46 rfl k8 ?_
      refine e_aload_n (pc := 29) (i := 3) dX5_countsOn_29 rfl rfl ?_
      refine e_callSi (pc := 30) (st := []) (rc' := 0) (rs' := 0) (B' := bX0_happened) [vR (wR w5 5 5 a0), vR a3] dX5_countsOn_30 vRX5_40 kX0_happened rfl rfl (Nat.le_of_ble_eq_true rfl) ⟨Nat.le_of_ble_eq_true rfl, Nat.le_of_ble_eq_true rfl⟩ rfl rfl hv (fun x10 w9 hv => ?_)
      refine e_if_ne (pc := 33) (tgt := 64) dX5_countsOn_33 (by decide) (fun h11 => ?_) (fun h11 => ?_)
      · replace hv := hv.1 h11
        refine e_iconst (pc := 64) (v := 0) dX5_countsOn_64 (by decide) ?_
        exact e_zreturn (pc := 65) dX5_countsOn_65 rfl (Or.inl rfl) ⟨_, rfl, hv⟩
      · replace hv := hv.2 h11
        refine e_aload_n (pc := 36) (i := 0) dX5_countsOn_36 rfl rfl ?_
        have k12 := hv.1
        replace hv := hv.2
        refine e_getR (pc := 37) dX5_countsOn_37 fRX5_13 rfl k12 ?_
        refine e_iload_n (pc := 40) (i := 2) dX5_countsOn_40 rfl rfl ?_
        refine e_aload_n (pc := 41) (i := 3) dX5_countsOn_41 rfl rfl ?_
        have k15 := hv.1
        replace hv := hv.2
        refine e_callVi (pc := 42) (ci := 2) (st := []) (rc' := 0) (rs' := 0) (B' := bX2_liesOn) [vI a2, vR a3] dX5_countsOn_42 vRX5_49 kX2_liesOn (by decide) rfl k15 rfl rfl (Nat.le_of_ble_eq_true rfl) ⟨Nat.le_of_ble_eq_true rfl, Nat.le_of_ble_eq_true rfl⟩ rfl rfl hv (fun x14 w13 hv => ?_)
        refine e_if_eq (pc := 45) (tgt := 64) dX5_countsOn_45 (by decide) (fun h16 => ?_) (fun h16 => ?_)
        · replace hv := hv.1 h16
          refine e_iconst (pc := 64) (v := 0) dX5_countsOn_64 (by decide) ?_
          exact e_zreturn (pc := 65) dX5_countsOn_65 rfl (Or.inl rfl) ⟨_, rfl, hv⟩
        · replace hv := hv.2 h16
          refine e_aload_n (pc := 48) (i := 0) dX5_countsOn_48 rfl rfl ?_
          have k17 := hv.1
          replace hv := hv.2
          refine e_getR (pc := 49) dX5_countsOn_49 fRX5_17 rfl k17 ?_
          refine e_iload_n (pc := 52) (i := 2) dX5_countsOn_52 rfl rfl ?_
          refine e_aload_n (pc := 53) (i := 3) dX5_countsOn_53 rfl rfl ?_
          have k20 := hv.1
          replace hv := hv.2
          refine e_callVi (pc := 54) (ci := 2) (st := []) (rc' := 0) (rs' := 0) (B' := bX2_liesOn) [vI a2, vR a3] dX5_countsOn_54 vRX5_49 kX2_liesOn (by decide) rfl k20 rfl rfl (Nat.le_of_ble_eq_true rfl) ⟨Nat.le_of_ble_eq_true rfl, Nat.le_of_ble_eq_true rfl⟩ rfl rfl hv (fun x19 w18 hv => ?_)
          refine e_if_eq (pc := 57) (tgt := 64) dX5_countsOn_57 (by decide) (fun h21 => ?_) (fun h21 => ?_)
          · replace hv := hv.1 h21
            refine e_iconst (pc := 64) (v := 0) dX5_countsOn_64 (by decide) ?_
            exact e_zreturn (pc := 65) dX5_countsOn_65 rfl (Or.inl rfl) ⟨_, rfl, hv⟩
          · replace hv := hv.2 h21
            refine e_iconst (pc := 60) (v := 1) dX5_countsOn_60 (by decide) ?_
            refine e_goto (pc := 61) (tgt := 65) dX5_countsOn_61 (by decide) ?_
            exact e_zreturn (pc := 65) dX5_countsOn_65 rfl (Or.inr rfl) ⟨_, rfl, hv⟩
set_option maxRecDepth 100000 in
set_option maxHeartbeats 4000000 in
theorem oX5_changePlaces (X : Cx) (A : Wd → Prop) (a0 : Nat) (w : Wd)
    (hv : wK w a0 = 6 ∧ wK w (wR w 5 1 a0) = 3 ∧ wK w (wR w 5 2 a0) = 3 ∧ wK w (wR w 2 1 (wR w 5 1 a0)) = 10 ∧ wK w (wR w 2 1 (wR w 5 2 a0)) = 10 ∧ (((wI w 9 14 (wR w 2 1 (wR w 5 1 a0))) < (wI w 9 14 (wR w 2 1 (wR w 5 2 a0)))) → ∀ w7 : Wd, w7 = sI w 9 14 (wR w 2 1 (wR w 5 1 a0)) (wI w 9 14 (wR w 2 1 (wR w 5 2 a0))) → ∀ w9 : Wd, w9 = sI w7 9 14 (wR w 2 1 (wR w 5 2 a0)) (wI w 9 14 (wR w 2 1 (wR w 5 1 a0))) → ∀ w11 : Wd, w11 = sI w9 9 15 (wR w 2 1 (wR w 5 1 a0)) ((wI w9 9 15 (wR w 2 1 (wR w 5 1 a0))) + 1) → ∀ w13 : Wd, w13 = sI w11 9 15 (wR w 2 1 (wR w 5 2 a0)) ((wI w11 9 15 (wR w 2 1 (wR w 5 2 a0))) + 1) → A w13) ∧ ((¬ (wI w 9 14 (wR w 2 1 (wR w 5 1 a0))) < (wI w 9 14 (wR w 2 1 (wR w 5 2 a0)))) → A w)) :
    Ct X bX5_changePlaces mX5_changePlaces [vR a0] w (qV A) := by
  refine Ct.of (lv := [(0, vR a0)]) rfl (Nat.le_of_ble_eq_true rfl) rfl ?_
  refine e_aload_n (pc := 0) (i := 0) dX5_changePlaces_0 rfl rfl ?_
  have k1 := hv.1
  replace hv := hv.2
  refine e_getR (pc := 1) dX5_changePlaces_1 fRX5_13 rfl k1 ?_
  have k2 := hv.1
  replace hv := hv.2
  refine e_getR (pc := 4) dX5_changePlaces_4 fRX5_28 rfl k2 ?_
  refine e_astore_n (pc := 7) (i := 1) (lv' := [(0, vR a0), (1, vR (wR w 2 1 (wR w 5 1 a0)))]) dX5_changePlaces_7 rfl (by decide) rfl ?_
  refine e_aload_n (pc := 8) (i := 0) dX5_changePlaces_8 rfl rfl ?_
  refine e_getR (pc := 9) dX5_changePlaces_9 fRX5_17 rfl k1 ?_
  have k3 := hv.1
  replace hv := hv.2
  refine e_getR (pc := 12) dX5_changePlaces_12 fRX5_28 rfl k3 ?_
  refine e_astore_n (pc := 15) (i := 2) (lv' := [(0, vR a0), (1, vR (wR w 2 1 (wR w 5 1 a0))), (2, vR (wR w 2 1 (wR w 5 2 a0)))]) dX5_changePlaces_15 rfl (by decide) rfl ?_
  refine e_aload_n (pc := 16) (i := 1) dX5_changePlaces_16 rfl rfl ?_
  have k4 := hv.1
  replace hv := hv.2
  refine e_getI (pc := 17) dX5_changePlaces_17 fRX5_53 rfl k4 ?_
  refine e_aload_n (pc := 20) (i := 2) dX5_changePlaces_20 rfl rfl ?_
  have k5 := hv.1
  replace hv := hv.2
  refine e_getI (pc := 21) dX5_changePlaces_21 fRX5_53 rfl k5 ?_
  refine e_icmp_lt (pc := 24) (tgt := 28) dX5_changePlaces_24 (by decide) (fun h6 => ?_) (fun h6 => ?_)
  · replace hv := hv.1 h6
    refine e_aload_n (pc := 28) (i := 1) dX5_changePlaces_28 rfl rfl ?_
    refine e_getI (pc := 29) dX5_changePlaces_29 fRX5_53 rfl k4 ?_
    refine e_istore_n (pc := 32) (i := 3) (lv' := [(0, vR a0), (1, vR (wR w 2 1 (wR w 5 1 a0))), (2, vR (wR w 2 1 (wR w 5 2 a0))), (3, vI (wI w 9 14 (wR w 2 1 (wR w 5 1 a0))))]) dX5_changePlaces_32 rfl (by decide) rfl ?_
    refine e_aload_n (pc := 33) (i := 1) dX5_changePlaces_33 rfl rfl ?_
    refine e_aload_n (pc := 34) (i := 2) dX5_changePlaces_34 rfl rfl ?_
    refine e_getI (pc := 35) dX5_changePlaces_35 fRX5_53 rfl k5 ?_
    obtain ⟨w7, hw7⟩ : ∃ w7 : Wd, w7 = sI w 9 14 (wR w 2 1 (wR w 5 1 a0)) (wI w 9 14 (wR w 2 1 (wR w 5 2 a0))) := ⟨_, rfl⟩
    replace hv := hv w7 hw7
    refine e_putI (pc := 38) dX5_changePlaces_38 fRX5_53 (Or.inl rfl) rfl k4 ?_
    rw [← hw7]
    refine e_aload_n (pc := 41) (i := 2) dX5_changePlaces_41 rfl rfl ?_
    refine e_iload_n (pc := 42) (i := 3) dX5_changePlaces_42 rfl rfl ?_
    have k8 : wK w7 (wR w 2 1 (wR w 5 2 a0)) = 10 := (by rw [hw7]; exact k5)
    obtain ⟨w9, hw9⟩ : ∃ w9 : Wd, w9 = sI w7 9 14 (wR w 2 1 (wR w 5 2 a0)) (wI w 9 14 (wR w 2 1 (wR w 5 1 a0))) := ⟨_, rfl⟩
    replace hv := hv w9 hw9
    refine e_putI (pc := 43) dX5_changePlaces_43 fRX5_53 (Or.inl rfl) rfl k8 ?_
    rw [← hw9]
    refine e_aload_n (pc := 46) (i := 1) dX5_changePlaces_46 rfl rfl ?_
    refine e_dup (pc := 47) dX5_changePlaces_47 rfl ?_
    have k10 : wK w9 (wR w 2 1 (wR w 5 1 a0)) = 10 := (by rw [hw9]; exact (by rw [hw7]; exact k4))
    refine e_getI (pc := 48) dX5_changePlaces_48 fRX5_56 rfl k10 ?_
    refine e_iconst (pc := 51) (v := 1) dX5_changePlaces_51 (by decide) ?_
    refine e_iadd (pc := 52) dX5_changePlaces_52 ?_
    obtain ⟨w11, hw11⟩ : ∃ w11 : Wd, w11 = sI w9 9 15 (wR w 2 1 (wR w 5 1 a0)) ((wI w9 9 15 (wR w 2 1 (wR w 5 1 a0))) + 1) := ⟨_, rfl⟩
    replace hv := hv w11 hw11
    refine e_putI (pc := 53) dX5_changePlaces_53 fRX5_56 (Or.inl rfl) rfl k10 ?_
    rw [← hw11]
    refine e_aload_n (pc := 56) (i := 2) dX5_changePlaces_56 rfl rfl ?_
    refine e_dup (pc := 57) dX5_changePlaces_57 rfl ?_
    have k12 : wK w11 (wR w 2 1 (wR w 5 2 a0)) = 10 := (by rw [hw11]; exact (by rw [hw9]; exact k8))
    refine e_getI (pc := 58) dX5_changePlaces_58 fRX5_56 rfl k12 ?_
    refine e_iconst (pc := 61) (v := 1) dX5_changePlaces_61 (by decide) ?_
    refine e_iadd (pc := 62) dX5_changePlaces_62 ?_
    obtain ⟨w13, hw13⟩ : ∃ w13 : Wd, w13 = sI w11 9 15 (wR w 2 1 (wR w 5 2 a0)) ((wI w11 9 15 (wR w 2 1 (wR w 5 2 a0))) + 1) := ⟨_, rfl⟩
    replace hv := hv w13 hw13
    refine e_putI (pc := 63) dX5_changePlaces_63 fRX5_56 (Or.inl rfl) rfl k12 ?_
    rw [← hw13]
    exact e_vreturn (pc := 66) dX5_changePlaces_66 rfl ⟨rfl, hv⟩
  · replace hv := hv.2 h6
    exact e_vreturn (pc := 27) dX5_changePlaces_27 rfl ⟨rfl, hv⟩
set_option maxRecDepth 100000 in
set_option maxHeartbeats 4000000 in
theorem oX6_init (X : Cx) (A : Wd → Prop) (a0 : Nat) (a1 : Nat) (a2 : Int32) (a3 : Nat) (a4 : Nat) (w : Wd)
    (hv : wK w a0 ≠ 0 ∧ wK w a0 = 7 ∧ ∀ w3 : Wd, w3 = sR w 6 0 a0 a1 → ∀ w5 : Wd, w5 = sI w3 6 1 a0 a2 → ∀ w7 : Wd, w7 = sR w5 6 2 a0 a3 → ∀ w9 : Wd, w9 = sR w7 6 3 a0 a4 → A w9) :
    Ct X bX6_init mX6_init [vR a0, vR a1, vI a2, vR a3, vR a4] w (qV A) := by
  refine Ct.of (lv := [(0, vR a0), (1, vR a1), (2, vI a2), (3, vR a3), (4, vR a4)]) rfl (Nat.le_of_ble_eq_true rfl) rfl ?_
  refine e_aload_n (pc := 0) (i := 0) dX6_init_0 rfl rfl ?_
  have k1 := hv.1
  replace hv := hv.2
  refine e_objInit (pc := 1) dX6_init_1 (tb_a3 154 (by decide +kernel) rfl) k1 (Nat.le_of_ble_eq_true rfl) (Nat.le_of_ble_eq_true rfl) (Nat.le_of_ble_eq_true rfl) ?_
  refine e_aload_n (pc := 4) (i := 0) dX6_init_4 rfl rfl ?_
  refine e_aload_n (pc := 5) (i := 1) dX6_init_5 rfl rfl ?_
  have k2 := hv.1
  replace hv := hv.2
  obtain ⟨w3, hw3⟩ : ∃ w3 : Wd, w3 = sR w 6 0 a0 a1 := ⟨_, rfl⟩
  replace hv := hv w3 hw3
  refine e_putR (pc := 6) dX6_init_6 fRX6_9 (Or.inr ⟨rfl, rfl, rfl⟩) rfl k2 ?_
  rw [← hw3]
  refine e_aload_n (pc := 9) (i := 0) dX6_init_9 rfl rfl ?_
  refine e_iload_n (pc := 10) (i := 2) dX6_init_10 rfl rfl ?_
  have k4 : wK w3 a0 = 7 := (by rw [hw3]; exact k2)
  obtain ⟨w5, hw5⟩ : ∃ w5 : Wd, w5 = sI w3 6 1 a0 a2 := ⟨_, rfl⟩
  replace hv := hv w5 hw5
  refine e_putI (pc := 11) dX6_init_11 fRX6_15 (Or.inr ⟨rfl, rfl, rfl⟩) rfl k4 ?_
  rw [← hw5]
  refine e_aload_n (pc := 14) (i := 0) dX6_init_14 rfl rfl ?_
  refine e_aload_n (pc := 15) (i := 3) dX6_init_15 rfl rfl ?_
  have k6 : wK w5 a0 = 7 := (by rw [hw5]; exact k4)
  obtain ⟨w7, hw7⟩ : ∃ w7 : Wd, w7 = sR w5 6 2 a0 a3 := ⟨_, rfl⟩
  replace hv := hv w7 hw7
  refine e_putR (pc := 16) dX6_init_16 fRX6_19 (Or.inr ⟨rfl, rfl, rfl⟩) rfl k6 ?_
  rw [← hw7]
  refine e_aload_n (pc := 19) (i := 0) dX6_init_19 rfl rfl ?_
  refine e_aload (pc := 20) (i := 4) dX6_init_20 rfl ?_
  have k8 : wK w7 a0 = 7 := (by rw [hw7]; exact k6)
  obtain ⟨w9, hw9⟩ : ∃ w9 : Wd, w9 = sR w7 6 3 a0 a4 := ⟨_, rfl⟩
  replace hv := hv w9 hw9
  refine e_putR (pc := 22) dX6_init_22 fRX6_23 (Or.inr ⟨rfl, rfl, rfl⟩) rfl k8 ?_
  rw [← hw9]
  exact e_vreturn (pc := 25) dX6_init_25 rfl ⟨rfl, hv⟩
abbrev jX6_arrange_8 (X : Cx) (A : Wd → Prop) (l0 : Nat) (l1 : Nat) (w : Wd) : Prop := EJ X mX6_arrange (vw X bX6_arrange (qV A)) 0 0 8 [(0, vR l0), (1, vR l1)] [] w
abbrev jX6_arrange_79 (X : Cx) (A : Wd → Prop) (l0 : Nat) (l1 : Nat) (w : Wd) : Prop := EJ X mX6_arrange (vw X bX6_arrange (qV A)) 0 0 79 [(0, vR l0), (1, vR l1)] [] w
set_option maxRecDepth 100000 in
set_option maxHeartbeats 4000000 in
theorem tX6_arrange_79 (X : Cx) (A : Wd → Prop) (l0 : Nat) (l1 : Nat) (w : Wd)
    (hv : ((l1 = 0) → A w) ∧ ((¬ l1 = 0) → wK w l0 = 7 ∧ wK w l1 = 6 ∧ Ct X bX5_countsOn mX5_countsOn [vR l1, vR (wR w 6 0 l0), vI (wI w 6 1 l0), vR (wR w 6 2 l0)] w (qI fun x4 w3 => ((x4 = 0) → wK w3 l1 = 6 ∧ jX6_arrange_79 X A l0 (wR w3 5 6 l1) w3) ∧ ((¬ x4 = 0) → wK w3 l1 = 6 ∧ Ct X bX5_changePlaces mX5_changePlaces [vR l1] w3 (qV fun w8 => wK w8 l1 = 6 ∧ jX6_arrange_79 X A l0 (wR w8 5 6 l1) w8))))) :
    jX6_arrange_79 X A l0 l1 w := by
  refine e_aload_n (pc := 79) (i := 1) dX6_arrange_79 rfl rfl ?_
  refine e_ifnull (pc := 80) (tgt := 114) dX6_arrange_80 (by decide) (fun h1 => ?_) (fun h1 => ?_)
  · replace hv := hv.1 h1
    exact e_vreturn (pc := 114) dX6_arrange_114 rfl ⟨rfl, hv⟩
  · replace hv := hv.2 h1
    refine e_aload_n (pc := 83) (i := 1) dX6_arrange_83 rfl rfl ?_
    refine e_aload_n (pc := 84) (i := 0) dX6_arrange_84 rfl rfl ?_
    have k2 := hv.1
    replace hv := hv.2
    refine e_getR (pc := 85) dX6_arrange_85 fRX6_9 rfl k2 ?_
    refine e_aload_n (pc := 88) (i := 0) dX6_arrange_88 rfl rfl ?_
    refine e_getI (pc := 89) dX6_arrange_89 fRX6_15 rfl k2 ?_
    refine e_aload_n (pc := 92) (i := 0) dX6_arrange_92 rfl rfl ?_
    refine e_getR (pc := 93) dX6_arrange_93 fRX6_19 rfl k2 ?_
    have k5 := hv.1
    replace hv := hv.2
    refine e_callVi (pc := 96) (ci := 5) (st := []) (rc' := 0) (rs' := 0) (B' := bX5_countsOn) [vR (wR w 6 0 l0), vI (wI w 6 1 l0), vR (wR w 6 2 l0)] dX6_arrange_96 vRX6_62 kX5_countsOn (by decide) rfl k5 rfl rfl (Nat.le_of_ble_eq_true rfl) ⟨Nat.le_of_ble_eq_true rfl, Nat.le_of_ble_eq_true rfl⟩ rfl rfl hv (fun x4 w3 hv => ?_)
    refine e_if_eq (pc := 99) (tgt := 106) dX6_arrange_99 (by decide) (fun h6 => ?_) (fun h6 => ?_)
    · replace hv := hv.1 h6
      refine e_aload_n (pc := 106) (i := 1) dX6_arrange_106 rfl rfl ?_
      have k7 := hv.1
      replace hv := hv.2
      refine e_getR (pc := 107) dX6_arrange_107 fRX6_71 rfl k7 ?_
      refine e_astore_n (pc := 110) (i := 1) (lv' := [(0, vR l0), (1, vR (wR w3 5 6 l1))]) dX6_arrange_110 rfl (by decide) rfl ?_
      refine e_goto (pc := 111) (tgt := 79) dX6_arrange_111 (by decide) ?_
      exact hv
    · replace hv := hv.2 h6
      refine e_aload_n (pc := 102) (i := 1) dX6_arrange_102 rfl rfl ?_
      have k10 := hv.1
      replace hv := hv.2
      refine e_callVv (pc := 103) (ci := 5) (st := []) (rc' := 0) (rs' := 0) (B' := bX5_changePlaces) [] dX6_arrange_103 vRX6_68 kX5_changePlaces (by decide) rfl k10 rfl rfl (Nat.le_of_ble_eq_true rfl) ⟨Nat.le_of_ble_eq_true rfl, Nat.le_of_ble_eq_true rfl⟩ rfl rfl hv (fun w8 hv => ?_)
      refine e_aload_n (pc := 106) (i := 1) dX6_arrange_106 rfl rfl ?_
      have k11 := hv.1
      replace hv := hv.2
      refine e_getR (pc := 107) dX6_arrange_107 fRX6_71 rfl k11 ?_
      refine e_astore_n (pc := 110) (i := 1) (lv' := [(0, vR l0), (1, vR (wR w8 5 6 l1))]) dX6_arrange_110 rfl (by decide) rfl ?_
      refine e_goto (pc := 111) (tgt := 79) dX6_arrange_111 (by decide) ?_
      exact hv
set_option maxRecDepth 100000 in
set_option maxHeartbeats 4000000 in
theorem tX6_arrange_8 (X : Cx) (A : Wd → Prop) (l0 : Nat) (l1 : Nat) (w : Wd)
    (hv : ((l1 = 0) → wK w l0 = 7 ∧ Ct X bX6_rankPlaces mX6_rankPlaces [vR l0, vI 1] w (qV fun w2 => wK w2 l0 = 7 ∧ Ct X bX6_rankPlaces mX6_rankPlaces [vR l0, vI 0] w2 (qV fun w5 => wK w5 l0 = 7 ∧ jX6_arrange_79 X A l0 (wR w5 6 3 l0) w5))) ∧ ((¬ l1 = 0) → wK w l1 = 10 ∧ (((wR w 9 8 l1) = 0) → ∀ w11 : Wd, w11 = sI w 9 13 l1 0 → ∀ w13 : Wd, w13 = sI w11 9 14 l1 (-1) → ∀ w15 : Wd, w15 = sI w13 9 15 l1 0 → jX6_arrange_8 X A l0 (wR w15 9 12 l1) w15) ∧ ((¬ (wR w 9 8 l1) = 0) → wK w l0 = 7 ∧ wK w (wR w 9 8 l1) = 3 ∧ Ct X bX2_liesOn mX2_liesOn [vR (wR w 9 8 l1), vI (wI w 6 1 l0), vR (wR w 6 2 l0)] w (qI fun x19 w18 => ((x19 = 0) → wK w18 l1 = 10 ∧ ∀ w23 : Wd, w23 = sI w18 9 13 l1 0 → ∀ w25 : Wd, w25 = sI w23 9 14 l1 (-1) → ∀ w27 : Wd, w27 = sI w25 9 15 l1 0 → jX6_arrange_8 X A l0 (wR w27 9 12 l1) w27) ∧ ((¬ x19 = 0) → wK w18 l1 = 10 ∧ ∀ w30 : Wd, w30 = sI w18 9 13 l1 1 → ∀ w32 : Wd, w32 = sI w30 9 14 l1 (-1) → ∀ w34 : Wd, w34 = sI w32 9 15 l1 0 → jX6_arrange_8 X A l0 (wR w34 9 12 l1) w34))))) :
    jX6_arrange_8 X A l0 l1 w := by
  refine e_aload_n (pc := 8) (i := 1) dX6_arrange_8 rfl rfl ?_
  refine e_ifnull (pc := 9) (tgt := 64) dX6_arrange_9 (by decide) (fun h1 => ?_) (fun h1 => ?_)
  · replace hv := hv.1 h1
    refine e_aload_n (pc := 64) (i := 0) dX6_arrange_64 rfl rfl ?_
    refine e_iconst (pc := 65) (v := 1) dX6_arrange_65 (by decide) ?_
    have k4 := hv.1
    replace hv := hv.2
    refine e_callVv (pc := 66) (ci := 6) (st := []) (rc' := 0) (rs' := 0) (B' := bX6_rankPlaces) [vI 1] dX6_arrange_66 vRX6_58 kX6_rankPlaces (by decide) rfl k4 rfl rfl (Nat.le_of_ble_eq_true rfl) ⟨Nat.le_of_ble_eq_true rfl, Nat.le_of_ble_eq_true rfl⟩ rfl rfl hv (fun w2 hv => ?_)
    refine e_aload_n (pc := 69) (i := 0) dX6_arrange_69 rfl rfl ?_
    refine e_iconst (pc := 70) (v := 0) dX6_arrange_70 (by decide) ?_
    have k7 := hv.1
    replace hv := hv.2
    refine e_callVv (pc := 71) (ci := 6) (st := []) (rc' := 0) (rs' := 0) (B' := bX6_rankPlaces) [vI 0] dX6_arrange_71 vRX6_58 kX6_rankPlaces (by decide) rfl k7 rfl rfl (Nat.le_of_ble_eq_true rfl) ⟨Nat.le_of_ble_eq_true rfl, Nat.le_of_ble_eq_true rfl⟩ rfl rfl hv (fun w5 hv => ?_)
    refine e_aload_n (pc := 74) (i := 0) dX6_arrange_74 rfl rfl ?_
    have k8 := hv.1
    replace hv := hv.2
    refine e_getR (pc := 75) dX6_arrange_75 fRX6_23 rfl k8 ?_
    refine e_astore_n (pc := 78) (i := 1) (lv' := [(0, vR l0), (1, vR (wR w5 6 3 l0))]) dX6_arrange_78 rfl (by decide) rfl ?_
    exact hv
  · replace hv := hv.2 h1
    refine e_aload_n (pc := 12) (i := 1) dX6_arrange_12 rfl rfl ?_
    refine e_aload_n (pc := 13) (i := 1) dX6_arrange_13 rfl rfl ?_
    have k9 := hv.1
    replace hv := hv.2
    refine e_getR (pc := 14) dX6_arrange_14 fRX6_33 rfl k9 ?_
    refine e_ifnull (pc := 17) (tgt := 42) dX6_arrange_17 (by decide) (fun h10 => ?_) (fun h10 => ?_)
    · replace hv := hv.1 h10
      refine e_iconst (pc := 42) (v := 0) dX6_arrange_42 (by decide) ?_
      obtain ⟨w11, hw11⟩ : ∃ w11 : Wd, w11 = sI w 9 13 l1 0 := ⟨_, rfl⟩
      replace hv := hv w11 hw11
      refine e_putZ (pc := 43) dX6_arrange_43 fRX6_45 (Or.inl rfl) rfl k9 (Or.inl rfl) ?_
      rw [← hw11]
      refine e_aload_n (pc := 46) (i := 1) dX6_arrange_46 rfl rfl ?_
      refine e_iconst (pc := 47) (v := (-1)) dX6_arrange_47 (by decide) ?_
      have k12 : wK w11 l1 = 10 := (by rw [hw11]; exact k9)
      obtain ⟨w13, hw13⟩ : ∃ w13 : Wd, w13 = sI w11 9 14 l1 (-1) := ⟨_, rfl⟩
      replace hv := hv w13 hw13
      refine e_putI (pc := 48) dX6_arrange_48 fRX6_49 (Or.inl rfl) rfl k12 ?_
      rw [← hw13]
      refine e_aload_n (pc := 51) (i := 1) dX6_arrange_51 rfl rfl ?_
      refine e_iconst (pc := 52) (v := 0) dX6_arrange_52 (by decide) ?_
      have k14 : wK w13 l1 = 10 := (by rw [hw13]; exact k12)
      obtain ⟨w15, hw15⟩ : ∃ w15 : Wd, w15 = sI w13 9 15 l1 0 := ⟨_, rfl⟩
      replace hv := hv w15 hw15
      refine e_putI (pc := 53) dX6_arrange_53 fRX6_52 (Or.inl rfl) rfl k14 ?_
      rw [← hw15]
      refine e_aload_n (pc := 56) (i := 1) dX6_arrange_56 rfl rfl ?_
      have k16 : wK w15 l1 = 10 := (by rw [hw15]; exact k14)
      refine e_getR (pc := 57) dX6_arrange_57 fRX6_55 rfl k16 ?_
      refine e_astore_n (pc := 60) (i := 1) (lv' := [(0, vR l0), (1, vR (wR w15 9 12 l1))]) dX6_arrange_60 rfl (by decide) rfl ?_
      refine e_goto (pc := 61) (tgt := 8) dX6_arrange_61 (by decide) ?_
      exact hv
    · replace hv := hv.2 h10
      refine e_aload_n (pc := 20) (i := 1) dX6_arrange_20 rfl rfl ?_
      refine e_getR (pc := 21) dX6_arrange_21 fRX6_33 rfl k9 ?_
      refine e_aload_n (pc := 24) (i := 0) dX6_arrange_24 rfl rfl ?_
      have k17 := hv.1
      replace hv := hv.2
      refine e_getI (pc := 25) dX6_arrange_25 fRX6_15 rfl k17 ?_
      refine e_aload_n (pc := 28) (i := 0) dX6_arrange_28 rfl rfl ?_
      refine e_getR (pc := 29) dX6_arrange_29 fRX6_19 rfl k17 ?_
      have k20 := hv.1
      replace hv := hv.2
      refine e_callVi (pc := 32) (ci := 2) (st := [vR l1]) (rc' := 0) (rs' := 0) (B' := bX2_liesOn) [vI (wI w 6 1 l0), vR (wR w 6 2 l0)] dX6_arrange_32 vRX6_39 kX2_liesOn (by decide) rfl k20 rfl rfl (Nat.le_of_ble_eq_true rfl) ⟨Nat.le_of_ble_eq_true rfl, Nat.le_of_ble_eq_true rfl⟩ rfl rfl hv (fun x19 w18 hv => ?_)
      refine e_if_eq (pc := 35) (tgt := 42) dX6_arrange_35 (by decide) (fun h21 => ?_) (fun h21 => ?_)
      · replace hv := hv.1 h21
        refine e_iconst (pc := 42) (v := 0) dX6_arrange_42 (by decide) ?_
        have k22 := hv.1
        replace hv := hv.2
        obtain ⟨w23, hw23⟩ : ∃ w23 : Wd, w23 = sI w18 9 13 l1 0 := ⟨_, rfl⟩
        replace hv := hv w23 hw23
        refine e_putZ (pc := 43) dX6_arrange_43 fRX6_45 (Or.inl rfl) rfl k22 (Or.inl rfl) ?_
        rw [← hw23]
        refine e_aload_n (pc := 46) (i := 1) dX6_arrange_46 rfl rfl ?_
        refine e_iconst (pc := 47) (v := (-1)) dX6_arrange_47 (by decide) ?_
        have k24 : wK w23 l1 = 10 := (by rw [hw23]; exact k22)
        obtain ⟨w25, hw25⟩ : ∃ w25 : Wd, w25 = sI w23 9 14 l1 (-1) := ⟨_, rfl⟩
        replace hv := hv w25 hw25
        refine e_putI (pc := 48) dX6_arrange_48 fRX6_49 (Or.inl rfl) rfl k24 ?_
        rw [← hw25]
        refine e_aload_n (pc := 51) (i := 1) dX6_arrange_51 rfl rfl ?_
        refine e_iconst (pc := 52) (v := 0) dX6_arrange_52 (by decide) ?_
        have k26 : wK w25 l1 = 10 := (by rw [hw25]; exact k24)
        obtain ⟨w27, hw27⟩ : ∃ w27 : Wd, w27 = sI w25 9 15 l1 0 := ⟨_, rfl⟩
        replace hv := hv w27 hw27
        refine e_putI (pc := 53) dX6_arrange_53 fRX6_52 (Or.inl rfl) rfl k26 ?_
        rw [← hw27]
        refine e_aload_n (pc := 56) (i := 1) dX6_arrange_56 rfl rfl ?_
        have k28 : wK w27 l1 = 10 := (by rw [hw27]; exact k26)
        refine e_getR (pc := 57) dX6_arrange_57 fRX6_55 rfl k28 ?_
        refine e_astore_n (pc := 60) (i := 1) (lv' := [(0, vR l0), (1, vR (wR w27 9 12 l1))]) dX6_arrange_60 rfl (by decide) rfl ?_
        refine e_goto (pc := 61) (tgt := 8) dX6_arrange_61 (by decide) ?_
        exact hv
      · replace hv := hv.2 h21
        refine e_iconst (pc := 38) (v := 1) dX6_arrange_38 (by decide) ?_
        refine e_goto (pc := 39) (tgt := 43) dX6_arrange_39 (by decide) ?_
        have k29 := hv.1
        replace hv := hv.2
        obtain ⟨w30, hw30⟩ : ∃ w30 : Wd, w30 = sI w18 9 13 l1 1 := ⟨_, rfl⟩
        replace hv := hv w30 hw30
        refine e_putZ (pc := 43) dX6_arrange_43 fRX6_45 (Or.inl rfl) rfl k29 (Or.inr rfl) ?_
        rw [← hw30]
        refine e_aload_n (pc := 46) (i := 1) dX6_arrange_46 rfl rfl ?_
        refine e_iconst (pc := 47) (v := (-1)) dX6_arrange_47 (by decide) ?_
        have k31 : wK w30 l1 = 10 := (by rw [hw30]; exact k29)
        obtain ⟨w32, hw32⟩ : ∃ w32 : Wd, w32 = sI w30 9 14 l1 (-1) := ⟨_, rfl⟩
        replace hv := hv w32 hw32
        refine e_putI (pc := 48) dX6_arrange_48 fRX6_49 (Or.inl rfl) rfl k31 ?_
        rw [← hw32]
        refine e_aload_n (pc := 51) (i := 1) dX6_arrange_51 rfl rfl ?_
        refine e_iconst (pc := 52) (v := 0) dX6_arrange_52 (by decide) ?_
        have k33 : wK w32 l1 = 10 := (by rw [hw32]; exact k31)
        obtain ⟨w34, hw34⟩ : ∃ w34 : Wd, w34 = sI w32 9 15 l1 0 := ⟨_, rfl⟩
        replace hv := hv w34 hw34
        refine e_putI (pc := 53) dX6_arrange_53 fRX6_52 (Or.inl rfl) rfl k33 ?_
        rw [← hw34]
        refine e_aload_n (pc := 56) (i := 1) dX6_arrange_56 rfl rfl ?_
        have k35 : wK w34 l1 = 10 := (by rw [hw34]; exact k33)
        refine e_getR (pc := 57) dX6_arrange_57 fRX6_55 rfl k35 ?_
        refine e_astore_n (pc := 60) (i := 1) (lv' := [(0, vR l0), (1, vR (wR w34 9 12 l1))]) dX6_arrange_60 rfl (by decide) rfl ?_
        refine e_goto (pc := 61) (tgt := 8) dX6_arrange_61 (by decide) ?_
        exact hv
set_option maxRecDepth 100000 in
set_option maxHeartbeats 4000000 in
theorem oX6_arrange (X : Cx) (A : Wd → Prop) (a0 : Nat) (w : Wd)
    (hv : wK w a0 = 7 ∧ wK w (wR w 6 0 a0) = 4 ∧ jX6_arrange_8 X A a0 (wR w 3 3 (wR w 6 0 a0)) w) :
    Ct X bX6_arrange mX6_arrange [vR a0] w (qV A) := by
  refine Ct.of (lv := [(0, vR a0)]) rfl (Nat.le_of_ble_eq_true rfl) rfl ?_
  refine e_aload_n (pc := 0) (i := 0) dX6_arrange_0 rfl rfl ?_
  have k1 := hv.1
  replace hv := hv.2
  refine e_getR (pc := 1) dX6_arrange_1 fRX6_9 rfl k1 ?_
  have k2 := hv.1
  replace hv := hv.2
  refine e_getR (pc := 4) dX6_arrange_4 fRX6_27 rfl k2 ?_
  refine e_astore_n (pc := 7) (i := 1) (lv' := [(0, vR a0), (1, vR (wR w 3 3 (wR w 6 0 a0)))]) dX6_arrange_7 rfl (by decide) rfl ?_
  exact hv
abbrev jX6_rankPlaces_8 (X : Cx) (A : Wd → Prop) (l0 : Nat) (l1 : Int32) (l2 : Nat) (w : Wd) : Prop := EJ X mX6_rankPlaces (vw X bX6_rankPlaces (qV A)) 0 0 8 [(0, vR l0), (1, vI l1), (2, vR l2)] [] w
set_option maxRecDepth 100000 in
set_option maxHeartbeats 4000000 in
theorem tX6_rankPlaces_8 (X : Cx) (A : Wd → Prop) (l0 : Nat) (l1 : Int32) (l2 : Nat) (w : Wd)
    (hv : ((l2 = 0) → A w) ∧ ((¬ l2 = 0) → wK w l0 = 7 ∧ Ct X bX6_placedBy mX6_placedBy [vR l0, vR l2, vI l1] w (qR fun x3 w2 => ((x3 = 0) → wK w2 l2 = 10 ∧ jX6_rankPlaces_8 X A l0 l1 (wR w2 9 12 l2) w2) ∧ ((¬ x3 = 0) → wK w2 x3 = 10 ∧ ((¬ (wI w2 9 14 x3) = (-1)) → wK w2 l2 = 10 ∧ jX6_rankPlaces_8 X A l0 l1 (wR w2 9 12 l2) w2) ∧ (((wI w2 9 14 x3) = (-1)) → wK w2 l0 = 7 ∧ ∀ w11 : Wd, w11 = sI w2 9 14 x3 (wI w2 6 4 l0) → ∀ w13 : Wd, w13 = sI w11 6 4 l0 ((wI w11 6 4 l0) + 1) → wK w13 l2 = 10 ∧ jX6_rankPlaces_8 X A l0 l1 (wR w13 9 12 l2) w13))))) :
    jX6_rankPlaces_8 X A l0 l1 l2 w := by
  refine e_aload_n (pc := 8) (i := 2) dX6_rankPlaces_8 rfl rfl ?_
  refine e_ifnull (pc := 9) (tgt := 57) dX6_rankPlaces_9 (by decide) (fun h1 => ?_) (fun h1 => ?_)
  · replace hv := hv.1 h1
    exact e_vreturn (pc := 57) dX6_rankPlaces_57 rfl ⟨rfl, hv⟩
  · replace hv := hv.2 h1
    refine e_aload_n (pc := 12) (i := 0) dX6_rankPlaces_12 rfl rfl ?_
    refine e_aload_n (pc := 13) (i := 2) dX6_rankPlaces_13 rfl rfl ?_
    refine e_iload_n (pc := 14) (i := 1) dX6_rankPlaces_14 rfl rfl ?_
    have k4 := hv.1
    replace hv := hv.2
    refine e_callVr (pc := 15) (ci := 6) (st := []) (rc' := 0) (rs' := 0) (B' := bX6_placedBy) [vR l2, vI l1] dX6_rankPlaces_15 vRX6_73 kX6_placedBy (by decide) rfl k4 rfl rfl (Nat.le_of_ble_eq_true rfl) ⟨Nat.le_of_ble_eq_true rfl, Nat.le_of_ble_eq_true rfl⟩ rfl rfl hv (fun x3 w2 hv => ?_)
    refine e_astore_n (pc := 18) (i := 3) (lv' := [(0, vR l0), (1, vI l1), (2, vR l2), (3, vR x3)]) dX6_rankPlaces_18 rfl (by decide) rfl ?_
    refine e_aload_n (pc := 19) (i := 3) dX6_rankPlaces_19 rfl rfl ?_
    refine e_ifnull (pc := 20) (tgt := 49) dX6_rankPlaces_20 (by decide) (fun h5 => ?_) (fun h5 => ?_)
    · replace hv := hv.1 h5
      refine e_aload_n (pc := 49) (i := 2) dX6_rankPlaces_49 rfl rfl ?_
      have k6 := hv.1
      replace hv := hv.2
      refine e_getR (pc := 50) dX6_rankPlaces_50 fRX6_55 rfl k6 ?_
      refine e_astore_n (pc := 53) (i := 2) (lv' := [(0, vR l0), (1, vI l1), (2, vR (wR w2 9 12 l2)), (3, vR x3)]) dX6_rankPlaces_53 rfl (by decide) rfl ?_
      refine e_goto (pc := 54) (tgt := 8) dX6_rankPlaces_54 (by decide) ?_
      exact EJ.drop [0, 1, 2] rfl hv
    · replace hv := hv.2 h5
      refine e_aload_n (pc := 23) (i := 3) dX6_rankPlaces_23 rfl rfl ?_
      have k7 := hv.1
      replace hv := hv.2
      refine e_getI (pc := 24) dX6_rankPlaces_24 fRX6_49 rfl k7 ?_
      refine e_iconst (pc := 27) (v := (-1)) dX6_rankPlaces_27 (by decide) ?_
      refine e_icmp_ne (pc := 28) (tgt := 49) dX6_rankPlaces_28 (by decide) (fun h8 => ?_) (fun h8 => ?_)
      · replace hv := hv.1 h8
        refine e_aload_n (pc := 49) (i := 2) dX6_rankPlaces_49 rfl rfl ?_
        have k9 := hv.1
        replace hv := hv.2
        refine e_getR (pc := 50) dX6_rankPlaces_50 fRX6_55 rfl k9 ?_
        refine e_astore_n (pc := 53) (i := 2) (lv' := [(0, vR l0), (1, vI l1), (2, vR (wR w2 9 12 l2)), (3, vR x3)]) dX6_rankPlaces_53 rfl (by decide) rfl ?_
        refine e_goto (pc := 54) (tgt := 8) dX6_rankPlaces_54 (by decide) ?_
        exact EJ.drop [0, 1, 2] rfl hv
      · replace hv := hv.2 h8
        refine e_aload_n (pc := 31) (i := 3) dX6_rankPlaces_31 rfl rfl ?_
        refine e_aload_n (pc := 32) (i := 0) dX6_rankPlaces_32 rfl rfl ?_
        have k10 := hv.1
        replace hv := hv.2
        refine e_getI (pc := 33) dX6_rankPlaces_33 fRX6_77 rfl k10 ?_
        obtain ⟨w11, hw11⟩ : ∃ w11 : Wd, w11 = sI w2 9 14 x3 (wI w2 6 4 l0) := ⟨_, rfl⟩
        replace hv := hv w11 hw11
        refine e_putI (pc := 36) dX6_rankPlaces_36 fRX6_49 (Or.inl rfl) rfl k7 ?_
        rw [← hw11]
        refine e_aload_n (pc := 39) (i := 0) dX6_rankPlaces_39 rfl rfl ?_
        refine e_dup (pc := 40) dX6_rankPlaces_40 rfl ?_
        have k12 : wK w11 l0 = 7 := (by rw [hw11]; exact k10)
        refine e_getI (pc := 41) dX6_rankPlaces_41 fRX6_77 rfl k12 ?_
        refine e_iconst (pc := 44) (v := 1) dX6_rankPlaces_44 (by decide) ?_
        refine e_iadd (pc := 45) dX6_rankPlaces_45 ?_
        obtain ⟨w13, hw13⟩ : ∃ w13 : Wd, w13 = sI w11 6 4 l0 ((wI w11 6 4 l0) + 1) := ⟨_, rfl⟩
        replace hv := hv w13 hw13
        refine e_putI (pc := 46) dX6_rankPlaces_46 fRX6_77 (Or.inl rfl) rfl k12 ?_
        rw [← hw13]
        refine e_aload_n (pc := 49) (i := 2) dX6_rankPlaces_49 rfl rfl ?_
        have k14 := hv.1
        replace hv := hv.2
        refine e_getR (pc := 50) dX6_rankPlaces_50 fRX6_55 rfl k14 ?_
        refine e_astore_n (pc := 53) (i := 2) (lv' := [(0, vR l0), (1, vI l1), (2, vR (wR w13 9 12 l2)), (3, vR x3)]) dX6_rankPlaces_53 rfl (by decide) rfl ?_
        refine e_goto (pc := 54) (tgt := 8) dX6_rankPlaces_54 (by decide) ?_
        exact EJ.drop [0, 1, 2] rfl hv
set_option maxRecDepth 100000 in
set_option maxHeartbeats 4000000 in
theorem oX6_rankPlaces (X : Cx) (A : Wd → Prop) (a0 : Nat) (a1 : Int32) (w : Wd)
    (hv : wK w a0 = 7 ∧ wK w (wR w 6 0 a0) = 4 ∧ jX6_rankPlaces_8 X A a0 a1 (wR w 3 3 (wR w 6 0 a0)) w) :
    Ct X bX6_rankPlaces mX6_rankPlaces [vR a0, vI a1] w (qV A) := by
  refine Ct.of (lv := [(0, vR a0), (1, vI a1)]) rfl (Nat.le_of_ble_eq_true rfl) rfl ?_
  refine e_aload_n (pc := 0) (i := 0) dX6_rankPlaces_0 rfl rfl ?_
  have k1 := hv.1
  replace hv := hv.2
  refine e_getR (pc := 1) dX6_rankPlaces_1 fRX6_9 rfl k1 ?_
  have k2 := hv.1
  replace hv := hv.2
  refine e_getR (pc := 4) dX6_rankPlaces_4 fRX6_27 rfl k2 ?_
  refine e_astore_n (pc := 7) (i := 2) (lv' := [(0, vR a0), (1, vI a1), (2, vR (wR w 3 3 (wR w 6 0 a0)))]) dX6_rankPlaces_7 rfl (by decide) rfl ?_
  exact hv
set_option maxRecDepth 100000 in
set_option maxHeartbeats 4000000 in
theorem oX6_placedBy (X : Cx) (A : Nat → Wd → Prop) (a0 : Nat) (a1 : Nat) (a2 : Int32) (w : Wd)
    (hv : wK w a1 = 10 ∧ ((¬ (wI w 9 13 a1) = 0) → wK w (wR w 9 3 a1) = 9 ∧ (((wI w 8 0 (wR w 9 3 a1)) = 6) → ((¬ a2 = 0) → A 0 w) ∧ ((a2 = 0) → wK w a0 = 7 ∧ Ct X bX0_happened mX0_happened [vR (wR w 9 7 a1), vR (wR w 6 2 a0)] w (qI fun x8 w7 => ((¬ x8 = 0) → wK w7 a1 = 10 ∧ (((wR w7 9 6 a1) = 0) → A 0 w7) ∧ ((¬ (wR w7 9 6 a1) = 0) → wK w7 (wR w7 9 6 a1) = 10 ∧ (((wI w7 9 13 (wR w7 9 6 a1)) = 0) → A 0 w7) ∧ ((¬ (wI w7 9 13 (wR w7 9 6 a1)) = 0) → A (wR w7 9 6 a1) w7))) ∧ ((x8 = 0) → A 0 w7)))) ∧ ((¬ (wI w 8 0 (wR w 9 3 a1)) = 6) → wK w a0 = 7 ∧ Ct X bX8_goesAhead mX8_goesAhead [vR (wR w 9 3 a1), vR (wR w 6 2 a0)] w (qI fun x16 w15 => ((¬ x16 = a2) → A 0 w15) ∧ ((x16 = a2) → A a1 w15)))) ∧ (((wI w 9 13 a1) = 0) → A 0 w)) :
    Ct X bX6_placedBy mX6_placedBy [vR a0, vR a1, vI a2] w (qR A) := by
  refine Ct.of (lv := [(0, vR a0), (1, vR a1), (2, vI a2)]) rfl (Nat.le_of_ble_eq_true rfl) rfl ?_
  refine e_aload_n (pc := 0) (i := 1) dX6_placedBy_0 rfl rfl ?_
  have k1 := hv.1
  replace hv := hv.2
  refine e_getI (pc := 1) dX6_placedBy_1 fRX6_45 rfl k1 ?_
  refine e_if_ne (pc := 4) (tgt := 9) dX6_placedBy_4 (by decide) (fun h2 => ?_) (fun h2 => ?_)
  · replace hv := hv.1 h2
    refine e_aload_n (pc := 9) (i := 1) dX6_placedBy_9 rfl rfl ?_
    refine e_getR (pc := 10) dX6_placedBy_10 fRX6_80 rfl k1 ?_
    have k3 := hv.1
    replace hv := hv.2
    refine e_getI (pc := 13) dX6_placedBy_13 fRX6_84 rfl k3 ?_
    refine e_bipush (pc := 16) (v := 6) dX6_placedBy_16 (by decide) ?_
    refine e_icmp_eq (pc := 18) (tgt := 42) dX6_placedBy_18 (by decide) (fun h4 => ?_) (fun h4 => ?_)
    · replace hv := hv.1 h4
      refine e_iload_n (pc := 42) (i := 2) dX6_placedBy_42 rfl rfl ?_
      refine e_if_ne (pc := 43) (tgt := 60) dX6_placedBy_43 (by decide) (fun h5 => ?_) (fun h5 => ?_)
      · replace hv := hv.1 h5
        refine e_null (pc := 60) dX6_placedBy_60 ?_
        exact e_areturn (pc := 61) dX6_placedBy_61 rfl ⟨_, rfl, hv⟩
      · replace hv := hv.2 h5
        refine e_aload_n (pc := 46) (i := 1) dX6_placedBy_46 rfl rfl ?_
        refine e_getR (pc := 47) dX6_placedBy_47 fRX6_93 rfl k1 ?_
        refine e_aload_n (pc := 50) (i := 0) dX6_placedBy_50 rfl rfl ?_
        have k6 := hv.1
        replace hv := hv.2
        refine e_getR (pc := 51) dX6_placedBy_51 fRX6_19 rfl k6 ?_
        refine e_callSi (pc := 54) (st := []) (rc' := 0) (rs' := 0) (B' := bX0_happened) [vR (wR w 9 7 a1), vR (wR w 6 2 a0)] dX6_placedBy_54 vRX6_97 kX0_happened rfl rfl (Nat.le_of_ble_eq_true rfl) ⟨Nat.le_of_ble_eq_true rfl, Nat.le_of_ble_eq_true rfl⟩ rfl rfl hv (fun x8 w7 hv => ?_)
        refine e_if_ne (pc := 57) (tgt := 62) dX6_placedBy_57 (by decide) (fun h9 => ?_) (fun h9 => ?_)
        · replace hv := hv.1 h9
          refine e_aload_n (pc := 62) (i := 1) dX6_placedBy_62 rfl rfl ?_
          have k10 := hv.1
          replace hv := hv.2
          refine e_getR (pc := 63) dX6_placedBy_63 fRX6_103 rfl k10 ?_
          refine e_astore_n (pc := 66) (i := 3) (lv' := [(0, vR a0), (1, vR a1), (2, vI a2), (3, vR (wR w7 9 6 a1))]) dX6_placedBy_66 rfl (by decide) rfl ?_
          refine e_aload_n (pc := 67) (i := 3) dX6_placedBy_67 rfl rfl ?_
          refine e_ifnull (pc := 68) (tgt := 82) dX6_placedBy_68 (by decide) (fun h11 => ?_) (fun h11 => ?_)
          · replace hv := hv.1 h11
            refine e_null (pc := 82) dX6_placedBy_82 ?_
            exact e_areturn (pc := 83) dX6_placedBy_83 rfl ⟨_, rfl, hv⟩
          · replace hv := hv.2 h11
            refine e_aload_n (pc := 71) (i := 3) dX6_placedBy_71 rfl rfl ?_
            have k12 := hv.1
            replace hv := hv.2
            refine e_getI (pc := 72) dX6_placedBy_72 fRX6_45 rfl k12 ?_
            refine e_if_eq (pc := 75) (tgt := 82) dX6_placedBy_75 (by decide) (fun h13 => ?_) (fun h13 => ?_)
            · replace hv := hv.1 h13
              refine e_null (pc := 82) dX6_placedBy_82 ?_
              exact e_areturn (pc := 83) dX6_placedBy_83 rfl ⟨_, rfl, hv⟩
            · replace hv := hv.2 h13
              refine e_aload_n (pc := 78) (i := 3) dX6_placedBy_78 rfl rfl ?_
              refine e_goto (pc := 79) (tgt := 83) dX6_placedBy_79 (by decide) ?_
              exact e_areturn (pc := 83) dX6_placedBy_83 rfl ⟨_, rfl, hv⟩
        · replace hv := hv.2 h9
          refine e_null (pc := 60) dX6_placedBy_60 ?_
          exact e_areturn (pc := 61) dX6_placedBy_61 rfl ⟨_, rfl, hv⟩
    · replace hv := hv.2 h4
      refine e_aload_n (pc := 21) (i := 1) dX6_placedBy_21 rfl rfl ?_
      refine e_getR (pc := 22) dX6_placedBy_22 fRX6_80 rfl k1 ?_
      refine e_aload_n (pc := 25) (i := 0) dX6_placedBy_25 rfl rfl ?_
      have k14 := hv.1
      replace hv := hv.2
      refine e_getR (pc := 26) dX6_placedBy_26 fRX6_19 rfl k14 ?_
      refine e_callVi (pc := 29) (ci := 8) (st := []) (rc' := 0) (rs' := 0) (B' := bX8_goesAhead) [vR (wR w 6 2 a0)] dX6_placedBy_29 vRX6_89 kX8_goesAhead (by decide) rfl k3 rfl rfl (Nat.le_of_ble_eq_true rfl) ⟨Nat.le_of_ble_eq_true rfl, Nat.le_of_ble_eq_true rfl⟩ rfl rfl hv (fun x16 w15 hv => ?_)
      refine e_iload_n (pc := 32) (i := 2) dX6_placedBy_32 rfl rfl ?_
      refine e_icmp_ne (pc := 33) (tgt := 40) dX6_placedBy_33 (by decide) (fun h17 => ?_) (fun h17 => ?_)
      · replace hv := hv.1 h17
        refine e_null (pc := 40) dX6_placedBy_40 ?_
        exact e_areturn (pc := 41) dX6_placedBy_41 rfl ⟨_, rfl, hv⟩
      · replace hv := hv.2 h17
        refine e_aload_n (pc := 36) (i := 1) dX6_placedBy_36 rfl rfl ?_
        refine e_goto (pc := 37) (tgt := 41) dX6_placedBy_37 (by decide) ?_
        exact e_areturn (pc := 41) dX6_placedBy_41 rfl ⟨_, rfl, hv⟩
  · replace hv := hv.2 h2
    refine e_null (pc := 7) dX6_placedBy_7 ?_
    exact e_areturn (pc := 8) dX6_placedBy_8 rfl ⟨_, rfl, hv⟩
abbrev jX6_wholeAt_8 (X : Cx) (A : Nat → Wd → Prop) (l1 : Int32) (l2 : Nat) (w : Wd) : Prop := EJ X mX6_wholeAt (vw X bX6_wholeAt (qR A)) 0 0 8 [(1, vI l1), (2, vR l2)] [] w
set_option maxRecDepth 100000 in
set_option maxHeartbeats 4000000 in
theorem tX6_wholeAt_8 (X : Cx) (A : Nat → Wd → Prop) (l1 : Int32) (l2 : Nat) (w : Wd)
    (hv : ((l2 = 0) → A 0 w) ∧ ((¬ l2 = 0) → wK w l2 = 10 ∧ (((wI w 9 14 l2) = (-1)) → jX6_wholeAt_8 X A l1 (wR w 9 12 l2) w) ∧ ((¬ (wI w 9 14 l2) = (-1)) → ((¬ (wI w 9 14 l2) = l1) → jX6_wholeAt_8 X A l1 (wR w 9 12 l2) w) ∧ (((wI w 9 14 l2) = l1) → A l2 w)))) :
    jX6_wholeAt_8 X A l1 l2 w := by
  refine e_aload_n (pc := 8) (i := 2) dX6_wholeAt_8 rfl rfl ?_
  refine e_ifnull (pc := 9) (tgt := 38) dX6_wholeAt_9 (by decide) (fun h1 => ?_) (fun h1 => ?_)
  · replace hv := hv.1 h1
    refine e_null (pc := 38) dX6_wholeAt_38 ?_
    exact e_areturn (pc := 39) dX6_wholeAt_39 rfl ⟨_, rfl, hv⟩
  · replace hv := hv.2 h1
    refine e_aload_n (pc := 12) (i := 2) dX6_wholeAt_12 rfl rfl ?_
    have k2 := hv.1
    replace hv := hv.2
    refine e_getI (pc := 13) dX6_wholeAt_13 fRX6_49 rfl k2 ?_
    refine e_iconst (pc := 16) (v := (-1)) dX6_wholeAt_16 (by decide) ?_
    refine e_icmp_eq (pc := 17) (tgt := 30) dX6_wholeAt_17 (by decide) (fun h3 => ?_) (fun h3 => ?_)
    · replace hv := hv.1 h3
      refine e_aload_n (pc := 30) (i := 2) dX6_wholeAt_30 rfl rfl ?_
      refine e_getR (pc := 31) dX6_wholeAt_31 fRX6_55 rfl k2 ?_
      refine e_astore_n (pc := 34) (i := 2) (lv' := [(1, vI l1), (2, vR (wR w 9 12 l2))]) dX6_wholeAt_34 rfl (by decide) rfl ?_
      refine e_goto (pc := 35) (tgt := 8) dX6_wholeAt_35 (by decide) ?_
      exact hv
    · replace hv := hv.2 h3
      refine e_aload_n (pc := 20) (i := 2) dX6_wholeAt_20 rfl rfl ?_
      refine e_getI (pc := 21) dX6_wholeAt_21 fRX6_49 rfl k2 ?_
      refine e_iload_n (pc := 24) (i := 1) dX6_wholeAt_24 rfl rfl ?_
      refine e_icmp_ne (pc := 25) (tgt := 30) dX6_wholeAt_25 (by decide) (fun h4 => ?_) (fun h4 => ?_)
      · replace hv := hv.1 h4
        refine e_aload_n (pc := 30) (i := 2) dX6_wholeAt_30 rfl rfl ?_
        refine e_getR (pc := 31) dX6_wholeAt_31 fRX6_55 rfl k2 ?_
        refine e_astore_n (pc := 34) (i := 2) (lv' := [(1, vI l1), (2, vR (wR w 9 12 l2))]) dX6_wholeAt_34 rfl (by decide) rfl ?_
        refine e_goto (pc := 35) (tgt := 8) dX6_wholeAt_35 (by decide) ?_
        exact hv
      · replace hv := hv.2 h4
        refine e_aload_n (pc := 28) (i := 2) dX6_wholeAt_28 rfl rfl ?_
        exact e_areturn (pc := 29) dX6_wholeAt_29 rfl ⟨_, rfl, hv⟩
set_option maxRecDepth 100000 in
set_option maxHeartbeats 4000000 in
theorem oX6_wholeAt (X : Cx) (A : Nat → Wd → Prop) (a0 : Nat) (a1 : Int32) (w : Wd)
    (hv : wK w a0 = 7 ∧ wK w (wR w 6 0 a0) = 4 ∧ jX6_wholeAt_8 X A a1 (wR w 3 3 (wR w 6 0 a0)) w) :
    Ct X bX6_wholeAt mX6_wholeAt [vR a0, vI a1] w (qR A) := by
  refine Ct.of (lv := [(0, vR a0), (1, vI a1)]) rfl (Nat.le_of_ble_eq_true rfl) rfl ?_
  refine e_aload_n (pc := 0) (i := 0) dX6_wholeAt_0 rfl rfl ?_
  have k1 := hv.1
  replace hv := hv.2
  refine e_getR (pc := 1) dX6_wholeAt_1 fRX6_9 rfl k1 ?_
  have k2 := hv.1
  replace hv := hv.2
  refine e_getR (pc := 4) dX6_wholeAt_4 fRX6_27 rfl k2 ?_
  refine e_astore_n (pc := 7) (i := 2) (lv' := [(0, vR a0), (1, vI a1), (2, vR (wR w 3 3 (wR w 6 0 a0)))]) dX6_wholeAt_7 rfl (by decide) rfl ?_
  exact EJ.drop [1, 2] rfl hv
set_option maxRecDepth 100000 in
set_option maxHeartbeats 4000000 in
theorem oX8_init (X : Cx) (A : Wd → Prop) (a0 : Nat) (a1 : Int32) (a2 : Int32) (a3 : Int64) (a5 : Int32) (w : Wd)
    (hv : wK w a0 ≠ 0 ∧ wK w a0 = 9 ∧ ∀ w3 : Wd, w3 = sI w 8 0 a0 a1 → ∀ w5 : Wd, w5 = sI w3 8 1 a0 a2 → ∀ w7 : Wd, w7 = sJ w5 8 2 a0 a3 → ∀ w9 : Wd, w9 = sI w7 8 3 a0 a5 → ∀ w11 : Wd, w11 = sI w9 8 4 a0 2 → A w11) :
    Ct X bX8_init mX8_init [vR a0, vI a1, vI a2, vJ a3, vI a5] w (qV A) := by
  refine Ct.of (lv := [(0, vR a0), (1, vI a1), (2, vI a2), (3, vJ a3), (5, vI a5)]) rfl (Nat.le_of_ble_eq_true rfl) rfl ?_
  refine e_aload_n (pc := 0) (i := 0) dX8_init_0 rfl rfl ?_
  have k1 := hv.1
  replace hv := hv.2
  refine e_objInit (pc := 1) dX8_init_1 (tb_a1 229 (by decide +kernel) rfl) k1 (Nat.le_of_ble_eq_true rfl) (Nat.le_of_ble_eq_true rfl) (Nat.le_of_ble_eq_true rfl) ?_
  refine e_aload_n (pc := 4) (i := 0) dX8_init_4 rfl rfl ?_
  refine e_iload_n (pc := 5) (i := 1) dX8_init_5 rfl rfl ?_
  have k2 := hv.1
  replace hv := hv.2
  obtain ⟨w3, hw3⟩ : ∃ w3 : Wd, w3 = sI w 8 0 a0 a1 := ⟨_, rfl⟩
  replace hv := hv w3 hw3
  refine e_putI (pc := 6) dX8_init_6 fRX8_9 (Or.inr ⟨rfl, rfl, rfl⟩) rfl k2 ?_
  rw [← hw3]
  refine e_aload_n (pc := 9) (i := 0) dX8_init_9 rfl rfl ?_
  refine e_iload_n (pc := 10) (i := 2) dX8_init_10 rfl rfl ?_
  have k4 : wK w3 a0 = 9 := (by rw [hw3]; exact k2)
  obtain ⟨w5, hw5⟩ : ∃ w5 : Wd, w5 = sI w3 8 1 a0 a2 := ⟨_, rfl⟩
  replace hv := hv w5 hw5
  refine e_putI (pc := 11) dX8_init_11 fRX8_15 (Or.inr ⟨rfl, rfl, rfl⟩) rfl k4 ?_
  rw [← hw5]
  refine e_aload_n (pc := 14) (i := 0) dX8_init_14 rfl rfl ?_
  refine e_lload_n (pc := 15) (i := 3) dX8_init_15 rfl rfl ?_
  have k6 : wK w5 a0 = 9 := (by rw [hw5]; exact k4)
  obtain ⟨w7, hw7⟩ : ∃ w7 : Wd, w7 = sJ w5 8 2 a0 a3 := ⟨_, rfl⟩
  replace hv := hv w7 hw7
  refine e_putJ (pc := 16) dX8_init_16 fRX8_18 (Or.inr ⟨rfl, rfl, rfl⟩) rfl k6 ?_
  rw [← hw7]
  refine e_aload_n (pc := 19) (i := 0) dX8_init_19 rfl rfl ?_
  refine e_iload (pc := 20) (i := 5) dX8_init_20 rfl ?_
  have k8 : wK w7 a0 = 9 := (by rw [hw7]; exact k6)
  obtain ⟨w9, hw9⟩ : ∃ w9 : Wd, w9 = sI w7 8 3 a0 a5 := ⟨_, rfl⟩
  replace hv := hv w9 hw9
  refine e_putI (pc := 22) dX8_init_22 fRX8_22 (Or.inl rfl) rfl k8 ?_
  rw [← hw9]
  refine e_aload_n (pc := 25) (i := 0) dX8_init_25 rfl rfl ?_
  refine e_iconst (pc := 26) (v := 2) dX8_init_26 (by decide) ?_
  have k10 : wK w9 a0 = 9 := (by rw [hw9]; exact k8)
  obtain ⟨w11, hw11⟩ : ∃ w11 : Wd, w11 = sI w9 8 4 a0 2 := ⟨_, rfl⟩
  replace hv := hv w11 hw11
  refine e_putI (pc := 27) dX8_init_27 fRX8_25 (Or.inl rfl) rfl k10 ?_
  rw [← hw11]
  exact e_vreturn (pc := 30) dX8_init_30 rfl ⟨rfl, hv⟩
set_option maxRecDepth 100000 in
set_option maxHeartbeats 4000000 in
theorem oX8_isDivisible (X : Cx) (A : Int32 → Wd → Prop) (a0 : Nat) (w : Wd)
    (hv : wK w a0 = 9 ∧ (((wI w 8 0 a0) = 4) → A 0 w) ∧ ((¬ (wI w 8 0 a0) = 4) → (((wI w 8 0 a0) = 6) → A 0 w) ∧ ((¬ (wI w 8 0 a0) = 6) → A 1 w))) :
    Ct X bX8_isDivisible mX8_isDivisible [vR a0] w (qI A) := by
  refine Ct.of (lv := [(0, vR a0)]) rfl (Nat.le_of_ble_eq_true rfl) rfl ?_
  refine e_aload_n (pc := 0) (i := 0) dX8_isDivisible_0 rfl rfl ?_
  have k1 := hv.1
  replace hv := hv.2
  refine e_getI (pc := 1) dX8_isDivisible_1 fRX8_9 rfl k1 ?_
  refine e_iconst (pc := 4) (v := 4) dX8_isDivisible_4 (by decide) ?_
  refine e_icmp_eq (pc := 5) (tgt := 21) dX8_isDivisible_5 (by decide) (fun h2 => ?_) (fun h2 => ?_)
  · replace hv := hv.1 h2
    refine e_iconst (pc := 21) (v := 0) dX8_isDivisible_21 (by decide) ?_
    exact e_zreturn (pc := 22) dX8_isDivisible_22 rfl (Or.inl rfl) ⟨_, rfl, hv⟩
  · replace hv := hv.2 h2
    refine e_aload_n (pc := 8) (i := 0) dX8_isDivisible_8 rfl rfl ?_
    refine e_getI (pc := 9) dX8_isDivisible_9 fRX8_9 rfl k1 ?_
    refine e_bipush (pc := 12) (v := 6) dX8_isDivisible_12 (by decide) ?_
    refine e_icmp_eq (pc := 14) (tgt := 21) dX8_isDivisible_14 (by decide) (fun h3 => ?_) (fun h3 => ?_)
    · replace hv := hv.1 h3
      refine e_iconst (pc := 21) (v := 0) dX8_isDivisible_21 (by decide) ?_
      exact e_zreturn (pc := 22) dX8_isDivisible_22 rfl (Or.inl rfl) ⟨_, rfl, hv⟩
    · replace hv := hv.2 h3
      refine e_iconst (pc := 17) (v := 1) dX8_isDivisible_17 (by decide) ?_
      refine e_goto (pc := 18) (tgt := 22) dX8_isDivisible_18 (by decide) ?_
      exact e_zreturn (pc := 22) dX8_isDivisible_22 rfl (Or.inr rfl) ⟨_, rfl, hv⟩
set_option maxRecDepth 100000 in
set_option maxHeartbeats 4000000 in
theorem oX8_hasPaper (X : Cx) (A : Int32 → Wd → Prop) (a0 : Nat) (w : Wd)
    (hv : wK w a0 = 9 ∧ (((wI w 8 0 a0) = 2) → A 1 w) ∧ ((¬ (wI w 8 0 a0) = 2) → ((¬ (wI w 8 0 a0) = 3) → A 0 w) ∧ (((wI w 8 0 a0) = 3) → A 1 w))) :
    Ct X bX8_hasPaper mX8_hasPaper [vR a0] w (qI A) := by
  refine Ct.of (lv := [(0, vR a0)]) rfl (Nat.le_of_ble_eq_true rfl) rfl ?_
  refine e_aload_n (pc := 0) (i := 0) dX8_hasPaper_0 rfl rfl ?_
  have k1 := hv.1
  replace hv := hv.2
  refine e_getI (pc := 1) dX8_hasPaper_1 fRX8_9 rfl k1 ?_
  refine e_iconst (pc := 4) (v := 2) dX8_hasPaper_4 (by decide) ?_
  refine e_icmp_eq (pc := 5) (tgt := 16) dX8_hasPaper_5 (by decide) (fun h2 => ?_) (fun h2 => ?_)
  · replace hv := hv.1 h2
    refine e_iconst (pc := 16) (v := 1) dX8_hasPaper_16 (by decide) ?_
    refine e_goto (pc := 17) (tgt := 21) dX8_hasPaper_17 (by decide) ?_
    exact e_zreturn (pc := 21) dX8_hasPaper_21 rfl (Or.inr rfl) ⟨_, rfl, hv⟩
  · replace hv := hv.2 h2
    refine e_aload_n (pc := 8) (i := 0) dX8_hasPaper_8 rfl rfl ?_
    refine e_getI (pc := 9) dX8_hasPaper_9 fRX8_9 rfl k1 ?_
    refine e_iconst (pc := 12) (v := 3) dX8_hasPaper_12 (by decide) ?_
    refine e_icmp_ne (pc := 13) (tgt := 20) dX8_hasPaper_13 (by decide) (fun h3 => ?_) (fun h3 => ?_)
    · replace hv := hv.1 h3
      refine e_iconst (pc := 20) (v := 0) dX8_hasPaper_20 (by decide) ?_
      exact e_zreturn (pc := 21) dX8_hasPaper_21 rfl (Or.inl rfl) ⟨_, rfl, hv⟩
    · replace hv := hv.2 h3
      refine e_iconst (pc := 16) (v := 1) dX8_hasPaper_16 (by decide) ?_
      refine e_goto (pc := 17) (tgt := 21) dX8_hasPaper_17 (by decide) ?_
      exact e_zreturn (pc := 21) dX8_hasPaper_21 rfl (Or.inr rfl) ⟨_, rfl, hv⟩
set_option maxRecDepth 100000 in
set_option maxHeartbeats 4000000 in
theorem oX8_claimAhead (X : Cx) (A : Wd → Prop) (a0 : Nat) (a1 : Int32) (a2 : Int32) (a3 : Nat) (w : Wd)
    (hv : wK w a0 = 9 ∧ ∀ w2 : Wd, w2 = sI w 8 6 a0 a1 → ∀ w4 : Wd, w4 = sI w2 8 4 a0 a2 → ∀ w6 : Wd, w6 = sR w4 8 5 a0 a3 → A w6) :
    Ct X bX8_claimAhead mX8_claimAhead [vR a0, vI a1, vI a2, vR a3] w (qV A) := by
  refine Ct.of (lv := [(0, vR a0), (1, vI a1), (2, vI a2), (3, vR a3)]) rfl (Nat.le_of_ble_eq_true rfl) rfl ?_
  refine e_aload_n (pc := 0) (i := 0) dX8_claimAhead_0 rfl rfl ?_
  refine e_iload_n (pc := 1) (i := 1) dX8_claimAhead_1 rfl rfl ?_
  have k1 := hv.1
  replace hv := hv.2
  obtain ⟨w2, hw2⟩ : ∃ w2 : Wd, w2 = sI w 8 6 a0 a1 := ⟨_, rfl⟩
  replace hv := hv w2 hw2
  refine e_putI (pc := 2) dX8_claimAhead_2 fRX8_28 (Or.inl rfl) rfl k1 ?_
  rw [← hw2]
  refine e_aload_n (pc := 5) (i := 0) dX8_claimAhead_5 rfl rfl ?_
  refine e_iload_n (pc := 6) (i := 2) dX8_claimAhead_6 rfl rfl ?_
  have k3 : wK w2 a0 = 9 := (by rw [hw2]; exact k1)
  obtain ⟨w4, hw4⟩ : ∃ w4 : Wd, w4 = sI w2 8 4 a0 a2 := ⟨_, rfl⟩
  replace hv := hv w4 hw4
  refine e_putI (pc := 7) dX8_claimAhead_7 fRX8_25 (Or.inl rfl) rfl k3 ?_
  rw [← hw4]
  refine e_aload_n (pc := 10) (i := 0) dX8_claimAhead_10 rfl rfl ?_
  refine e_aload_n (pc := 11) (i := 3) dX8_claimAhead_11 rfl rfl ?_
  have k5 : wK w4 a0 = 9 := (by rw [hw4]; exact k3)
  obtain ⟨w6, hw6⟩ : ∃ w6 : Wd, w6 = sR w4 8 5 a0 a3 := ⟨_, rfl⟩
  replace hv := hv w6 hw6
  refine e_putR (pc := 12) dX8_claimAhead_12 fRX8_31 (Or.inl rfl) rfl k5 ?_
  rw [← hw6]
  exact e_vreturn (pc := 15) dX8_claimAhead_15 rfl ⟨rfl, hv⟩
set_option maxRecDepth 100000 in
set_option maxHeartbeats 4000000 in
theorem oX8_goesAhead (X : Cx) (A : Int32 → Wd → Prop) (a0 : Nat) (a1 : Nat) (w : Wd)
    (hv : wK w a0 = 9 ∧ Ct X bX0_happened mX0_happened [vR (wR w 8 5 a0), vR a1] w (qI fun x3 w2 => ((x3 = 0) → A 0 w2) ∧ ((¬ x3 = 0) → wK w2 a0 = 9 ∧ wK w2 a1 = 5 ∧ (((wI w2 4 0 a1) < (wI w2 8 6 a0)) → A 0 w2) ∧ ((¬ (wI w2 4 0 a1) < (wI w2 8 6 a0)) → A 1 w2)))) :
    Ct X bX8_goesAhead mX8_goesAhead [vR a0, vR a1] w (qI A) := by
  refine Ct.of (lv := [(0, vR a0), (1, vR a1)]) rfl (Nat.le_of_ble_eq_true rfl) rfl ?_
  refine e_aload_n (pc := 0) (i := 0) dX8_goesAhead_0 rfl rfl ?_
  have k1 := hv.1
  replace hv := hv.2
  refine e_getR (pc := 1) dX8_goesAhead_1 fRX8_31 rfl k1 ?_
  refine e_aload_n (pc := 4) (i := 1) dX8_goesAhead_4 rfl rfl ?_
  refine e_callSi (pc := 5) (st := []) (rc' := 0) (rs' := 0) (B' := bX0_happened) [vR (wR w 8 5 a0), vR a1] dX8_goesAhead_5 vRX8_35 kX0_happened rfl rfl (Nat.le_of_ble_eq_true rfl) ⟨Nat.le_of_ble_eq_true rfl, Nat.le_of_ble_eq_true rfl⟩ rfl rfl hv (fun x3 w2 hv => ?_)
  refine e_if_eq (pc := 8) (tgt := 26) dX8_goesAhead_8 (by decide) (fun h4 => ?_) (fun h4 => ?_)
  · replace hv := hv.1 h4
    refine e_iconst (pc := 26) (v := 0) dX8_goesAhead_26 (by decide) ?_
    exact e_zreturn (pc := 27) dX8_goesAhead_27 rfl (Or.inl rfl) ⟨_, rfl, hv⟩
  · replace hv := hv.2 h4
    refine e_aload_n (pc := 11) (i := 0) dX8_goesAhead_11 rfl rfl ?_
    have k5 := hv.1
    replace hv := hv.2
    refine e_getI (pc := 12) dX8_goesAhead_12 fRX8_28 rfl k5 ?_
    refine e_aload_n (pc := 15) (i := 1) dX8_goesAhead_15 rfl rfl ?_
    have k6 := hv.1
    replace hv := hv.2
    refine e_getI (pc := 16) dX8_goesAhead_16 fRX8_41 rfl k6 ?_
    refine e_icmp_gt (pc := 19) (tgt := 26) dX8_goesAhead_19 (by decide) (fun h7 => ?_) (fun h7 => ?_)
    · replace hv := hv.1 h7
      refine e_iconst (pc := 26) (v := 0) dX8_goesAhead_26 (by decide) ?_
      exact e_zreturn (pc := 27) dX8_goesAhead_27 rfl (Or.inl rfl) ⟨_, rfl, hv⟩
    · replace hv := hv.2 h7
      refine e_iconst (pc := 22) (v := 1) dX8_goesAhead_22 (by decide) ?_
      refine e_goto (pc := 23) (tgt := 27) dX8_goesAhead_23 (by decide) ?_
      exact e_zreturn (pc := 27) dX8_goesAhead_27 rfl (Or.inr rfl) ⟨_, rfl, hv⟩
set_option maxRecDepth 100000 in
set_option maxHeartbeats 4000000 in
theorem oX8_dueOf (X : Cx) (A : Int64 → Wd → Prop) (a0 : Nat) (a1 : Int64) (a3 : Int32) (w : Wd)
    (hv : wK w a0 = 9 ∧ ((wI w 8 0 a0) = 3 → Ct X bX8_withInterest mX8_withInterest [vR a0, vJ a1, vI a3] w (qJ fun x4 w3 => A (if x4 < (wJ w 8 2 a0) then x4 else (wJ w 8 2 a0)) w3)) ∧ ((wI w 8 0 a0) = 4 → (((wI w 8 7 a0) = 0) → Ct X bX8_rentYears mX8_rentYears [vR a0, vI a3] w (qI fun x8 w7 => A (a1 * x8.toInt64) w7)) ∧ ((¬ (wI w 8 7 a0) = 0) → A a1 w)) ∧ ((wI w 8 0 a0) = 5 → Ct X bX8_withInterest mX8_withInterest [vR a0, vJ a1, vI a3] w (qJ fun x11 w10 => A x11 w10)) ∧ ((wI w 8 0 a0) = 6 → A 0 w) ∧ (¬ (wI w 8 0 a0) = 3 → ¬ (wI w 8 0 a0) = 4 → ¬ (wI w 8 0 a0) = 5 → ¬ (wI w 8 0 a0) = 6 → Ct X bX8_withInterest mX8_withInterest [vR a0, vJ a1, vI a3] w (qJ fun x14 w13 => A x14 w13))) :
    Ct X bX8_dueOf mX8_dueOf [vR a0, vJ a1, vI a3] w (qJ A) := by
  refine Ct.of (lv := [(0, vR a0), (1, vJ a1), (3, vI a3)]) rfl (Nat.le_of_ble_eq_true rfl) rfl ?_
  refine e_aload_n (pc := 0) (i := 0) dX8_dueOf_0 rfl rfl ?_
  have k1 := hv.1
  replace hv := hv.2
  refine e_getI (pc := 1) dX8_dueOf_1 fRX8_9 rfl k1 ?_
  by_cases h2 : (wI w 8 0 a0) = 3
  · replace hv := hv.1 h2
    refine e_tableK (pc := 4) (tgt := 58) (c := 3) (off := 54) dX8_dueOf_4 h2 (by decide) (by decide) (by decide) (by decide) ?_
    refine e_aload_n (pc := 58) (i := 0) dX8_dueOf_58 rfl rfl ?_
    refine e_getJ (pc := 59) dX8_dueOf_59 fRX8_18 rfl k1 ?_
    refine e_aload_n (pc := 62) (i := 0) dX8_dueOf_62 rfl rfl ?_
    refine e_lload_n (pc := 63) (i := 1) dX8_dueOf_63 rfl rfl ?_
    refine e_iload_n (pc := 64) (i := 3) dX8_dueOf_64 rfl rfl ?_
    refine e_callVj (pc := 65) (ci := 8) (st := [vJ (wJ w 8 2 a0)]) (rc' := 0) (rs' := 0) (B' := bX8_withInterest) [vJ a1, vI a3] dX8_dueOf_65 vRX8_54 kX8_withInterest (by decide) rfl k1 rfl rfl (Nat.le_of_ble_eq_true rfl) ⟨Nat.le_of_ble_eq_true rfl, Nat.le_of_ble_eq_true rfl⟩ rfl rfl hv (fun x4 w3 hv => ?_)
    refine e_mminJ (pc := 68) dX8_dueOf_68 (tb_a4 54 (by decide +kernel) rfl) (Nat.le_of_ble_eq_true rfl) (Nat.le_of_ble_eq_true rfl) ?_
    exact e_lreturn (pc := 71) dX8_dueOf_71 rfl ⟨_, rfl, hv⟩
  replace hv := hv.2
  by_cases h5 : (wI w 8 0 a0) = 4
  · replace hv := hv.1 h5
    refine e_tableK (pc := 4) (tgt := 38) (c := 4) (off := 34) dX8_dueOf_4 h5 (by decide) (by decide) (by decide) (by decide) ?_
    refine e_aload_n (pc := 38) (i := 0) dX8_dueOf_38 rfl rfl ?_
    refine e_getI (pc := 39) dX8_dueOf_39 fRX8_46 rfl k1 ?_
    refine e_if_eq (pc := 42) (tgt := 49) dX8_dueOf_42 (by decide) (fun h6 => ?_) (fun h6 => ?_)
    · replace hv := hv.1 h6
      refine e_lload_n (pc := 49) (i := 1) dX8_dueOf_49 rfl rfl ?_
      refine e_aload_n (pc := 50) (i := 0) dX8_dueOf_50 rfl rfl ?_
      refine e_iload_n (pc := 51) (i := 3) dX8_dueOf_51 rfl rfl ?_
      refine e_callVi (pc := 52) (ci := 8) (st := [vJ a1]) (rc' := 0) (rs' := 0) (B' := bX8_rentYears) [vI a3] dX8_dueOf_52 vRX8_50 kX8_rentYears (by decide) rfl k1 rfl rfl (Nat.le_of_ble_eq_true rfl) ⟨Nat.le_of_ble_eq_true rfl, Nat.le_of_ble_eq_true rfl⟩ rfl rfl hv (fun x8 w7 hv => ?_)
      refine e_i2l (pc := 55) dX8_dueOf_55 ?_
      refine e_lmul (pc := 56) dX8_dueOf_56 ?_
      exact e_lreturn (pc := 57) dX8_dueOf_57 rfl ⟨_, rfl, hv⟩
    · replace hv := hv.2 h6
      refine e_lload_n (pc := 45) (i := 1) dX8_dueOf_45 rfl rfl ?_
      refine e_goto (pc := 46) (tgt := 57) dX8_dueOf_46 (by decide) ?_
      exact e_lreturn (pc := 57) dX8_dueOf_57 rfl ⟨_, rfl, hv⟩
  replace hv := hv.2
  by_cases h9 : (wI w 8 0 a0) = 5
  · replace hv := hv.1 h9
    refine e_tableK (pc := 4) (tgt := 72) (c := 5) (off := 68) dX8_dueOf_4 h9 (by decide) (by decide) (by decide) (by decide) ?_
    refine e_aload_n (pc := 72) (i := 0) dX8_dueOf_72 rfl rfl ?_
    refine e_lload_n (pc := 73) (i := 1) dX8_dueOf_73 rfl rfl ?_
    refine e_iload_n (pc := 74) (i := 3) dX8_dueOf_74 rfl rfl ?_
    refine e_callVj (pc := 75) (ci := 8) (st := []) (rc' := 0) (rs' := 0) (B' := bX8_withInterest) [vJ a1, vI a3] dX8_dueOf_75 vRX8_54 kX8_withInterest (by decide) rfl k1 rfl rfl (Nat.le_of_ble_eq_true rfl) ⟨Nat.le_of_ble_eq_true rfl, Nat.le_of_ble_eq_true rfl⟩ rfl rfl hv (fun x11 w10 hv => ?_)
    exact e_lreturn (pc := 78) dX8_dueOf_78 rfl ⟨_, rfl, hv⟩
  replace hv := hv.2
  by_cases h12 : (wI w 8 0 a0) = 6
  · replace hv := hv.1 h12
    refine e_tableK (pc := 4) (tgt := 36) (c := 6) (off := 32) dX8_dueOf_4 h12 (by decide) (by decide) (by decide) (by decide) ?_
    refine e_lconst (pc := 36) (v := 0) dX8_dueOf_36 (by decide) ?_
    exact e_lreturn (pc := 37) dX8_dueOf_37 rfl ⟨_, rfl, hv⟩
  replace hv := hv.2
  replace hv := hv h2 h5 h9 h12
  refine e_tableOut (pc := 4) (tgt := 72) dX8_dueOf_4 (by have z3 : ¬ (wI w 8 0 a0).toInt = 3 := lv_neT h2 (by decide); have z4 : ¬ (wI w 8 0 a0).toInt = 4 := lv_neT h5 (by decide); have z5 : ¬ (wI w 8 0 a0).toInt = 5 := lv_neT h9 (by decide); have z6 : ¬ (wI w 8 0 a0).toInt = 6 := lv_neT h12 (by decide); omega) (by decide) ?_
  refine e_aload_n (pc := 72) (i := 0) dX8_dueOf_72 rfl rfl ?_
  refine e_lload_n (pc := 73) (i := 1) dX8_dueOf_73 rfl rfl ?_
  refine e_iload_n (pc := 74) (i := 3) dX8_dueOf_74 rfl rfl ?_
  refine e_callVj (pc := 75) (ci := 8) (st := []) (rc' := 0) (rs' := 0) (B' := bX8_withInterest) [vJ a1, vI a3] dX8_dueOf_75 vRX8_54 kX8_withInterest (by decide) rfl k1 rfl rfl (Nat.le_of_ble_eq_true rfl) ⟨Nat.le_of_ble_eq_true rfl, Nat.le_of_ble_eq_true rfl⟩ rfl rfl hv (fun x14 w13 hv => ?_)
  exact e_lreturn (pc := 78) dX8_dueOf_78 rfl ⟨_, rfl, hv⟩
set_option maxRecDepth 100000 in
set_option maxHeartbeats 4000000 in
theorem oX8_withInterest (X : Cx) (A : Int64 → Wd → Prop) (a0 : Nat) (a1 : Int64) (a3 : Int32) (w : Wd)
    (hv : wK w a0 = 9 ∧ A (a1 + (((a1 * ((wI w 8 1 a0).toInt64)) * ((if (365 * (wI w 8 4 a0)) < (a3 - (wI w 8 3 a0)) then (365 * (wI w 8 4 a0)) else (a3 - (wI w 8 3 a0))).toInt64)) / 365000)) w) :
    Ct X bX8_withInterest mX8_withInterest [vR a0, vJ a1, vI a3] w (qJ A) := by
  refine Ct.of (lv := [(0, vR a0), (1, vJ a1), (3, vI a3)]) rfl (Nat.le_of_ble_eq_true rfl) rfl ?_
  refine e_iload_n (pc := 0) (i := 3) dX8_withInterest_0 rfl rfl ?_
  refine e_aload_n (pc := 1) (i := 0) dX8_withInterest_1 rfl rfl ?_
  have k1 := hv.1
  replace hv := hv.2
  refine e_getI (pc := 2) dX8_withInterest_2 fRX8_22 rfl k1 ?_
  refine e_isub (pc := 5) dX8_withInterest_5 ?_
  refine e_sipush (pc := 6) (v := 365) dX8_withInterest_6 (by decide) ?_
  refine e_aload_n (pc := 9) (i := 0) dX8_withInterest_9 rfl rfl ?_
  refine e_getI (pc := 10) dX8_withInterest_10 fRX8_25 rfl k1 ?_
  refine e_imul (pc := 13) dX8_withInterest_13 ?_
  refine e_mmin (pc := 14) dX8_withInterest_14 (tb_a4 46 (by decide +kernel) rfl) (Nat.le_of_ble_eq_true rfl) (Nat.le_of_ble_eq_true rfl) ?_
  refine e_istore (pc := 17) (i := 4) (lv' := [(0, vR a0), (1, vJ a1), (3, vI a3), (4, vI (if (365 * (wI w 8 4 a0)) < (a3 - (wI w 8 3 a0)) then (365 * (wI w 8 4 a0)) else (a3 - (wI w 8 3 a0))))]) dX8_withInterest_17 (by decide) rfl ?_
  refine e_lload_n (pc := 19) (i := 1) dX8_withInterest_19 rfl rfl ?_
  refine e_lload_n (pc := 20) (i := 1) dX8_withInterest_20 rfl rfl ?_
  refine e_aload_n (pc := 21) (i := 0) dX8_withInterest_21 rfl rfl ?_
  refine e_getI (pc := 22) dX8_withInterest_22 fRX8_15 rfl k1 ?_
  refine e_i2l (pc := 25) dX8_withInterest_25 ?_
  refine e_lmul (pc := 26) dX8_withInterest_26 ?_
  refine e_iload (pc := 27) (i := 4) dX8_withInterest_27 rfl ?_
  refine e_i2l (pc := 29) dX8_withInterest_29 ?_
  refine e_lmul (pc := 30) dX8_withInterest_30 ?_
  refine e_ldc2 (pc := 31) (v := 365000) dX8_withInterest_31 (tb_a4 53 (by decide +kernel) rfl) ?_
  refine e_ldiv (pc := 34) dX8_withInterest_34 (by decide) ?_
  refine e_ladd (pc := 35) dX8_withInterest_35 ?_
  exact e_lreturn (pc := 36) dX8_withInterest_36 rfl ⟨_, rfl, hv⟩
set_option maxRecDepth 100000 in
set_option maxHeartbeats 4000000 in
theorem oX8_rentYears (X : Cx) (A : Int32 → Wd → Prop) (a0 : Nat) (a1 : Int32) (w : Wd)
    (hv : wK w a0 = 9 ∧ ((¬ (wI w 8 1 a0) = 0) → A (if ((if (0 : Int32) < ((wI w 8 1 a0) - a1) then ((wI w 8 1 a0) - a1) else (0 : Int32)) / 365) < (20 : Int32) then ((if (0 : Int32) < ((wI w 8 1 a0) - a1) then ((wI w 8 1 a0) - a1) else (0 : Int32)) / 365) else (20 : Int32)) w) ∧ (((wI w 8 1 a0) = 0) → A 20 w)) :
    Ct X bX8_rentYears mX8_rentYears [vR a0, vI a1] w (qI A) := by
  refine Ct.of (lv := [(0, vR a0), (1, vI a1)]) rfl (Nat.le_of_ble_eq_true rfl) rfl ?_
  refine e_aload_n (pc := 0) (i := 0) dX8_rentYears_0 rfl rfl ?_
  have k1 := hv.1
  replace hv := hv.2
  refine e_getI (pc := 1) dX8_rentYears_1 fRX8_15 rfl k1 ?_
  refine e_if_ne (pc := 4) (tgt := 10) dX8_rentYears_4 (by decide) (fun h2 => ?_) (fun h2 => ?_)
  · replace hv := hv.1 h2
    refine e_bipush (pc := 10) (v := 20) dX8_rentYears_10 (by decide) ?_
    refine e_iconst (pc := 12) (v := 0) dX8_rentYears_12 (by decide) ?_
    refine e_aload_n (pc := 13) (i := 0) dX8_rentYears_13 rfl rfl ?_
    refine e_getI (pc := 14) dX8_rentYears_14 fRX8_15 rfl k1 ?_
    refine e_iload_n (pc := 17) (i := 1) dX8_rentYears_17 rfl rfl ?_
    refine e_isub (pc := 18) dX8_rentYears_18 ?_
    refine e_mmax (pc := 19) dX8_rentYears_19 (tb_a4 43 (by decide +kernel) rfl) (Nat.le_of_ble_eq_true rfl) (Nat.le_of_ble_eq_true rfl) ?_
    refine e_sipush (pc := 22) (v := 365) dX8_rentYears_22 (by decide) ?_
    refine e_idiv (pc := 25) dX8_rentYears_25 (by decide) ?_
    refine e_mmin (pc := 26) dX8_rentYears_26 (tb_a4 46 (by decide +kernel) rfl) (Nat.le_of_ble_eq_true rfl) (Nat.le_of_ble_eq_true rfl) ?_
    exact e_ireturn (pc := 29) dX8_rentYears_29 rfl ⟨_, rfl, hv⟩
  · replace hv := hv.2 h2
    refine e_bipush (pc := 7) (v := 20) dX8_rentYears_7 (by decide) ?_
    exact e_ireturn (pc := 9) dX8_rentYears_9 rfl ⟨_, rfl, hv⟩
set_option maxRecDepth 100000 in
set_option maxHeartbeats 4000000 in
theorem oX9_init (X : Cx) (A : Wd → Prop) (a0 : Nat) (a1 : Nat) (a2 : Int64) (a4 : Nat) (a5 : Nat) (w : Wd)
    (hv : wK w a0 ≠ 0 ∧ wK w a0 = 10 ∧ ∀ w3 : Wd, w3 = sR w 9 0 a0 a1 → ∀ w5 : Wd, w5 = sJ w3 9 1 a0 a2 → ∀ w7 : Wd, w7 = sR w5 9 2 a0 a4 → ∀ w9 : Wd, w9 = sR w7 9 3 a0 a5 → ∀ w11 : Wd, w11 = sI w9 9 5 a0 1 → A w11) :
    Ct X bX9_init mX9_init [vR a0, vR a1, vJ a2, vR a4, vR a5] w (qV A) := by
  refine Ct.of (lv := [(0, vR a0), (1, vR a1), (2, vJ a2), (4, vR a4), (5, vR a5)]) rfl (Nat.le_of_ble_eq_true rfl) rfl ?_
  refine e_aload_n (pc := 0) (i := 0) dX9_init_0 rfl rfl ?_
  have k1 := hv.1
  replace hv := hv.2
  refine e_objInit (pc := 1) dX9_init_1 (tb_a2 28 (by decide +kernel) rfl) k1 (Nat.le_of_ble_eq_true rfl) (Nat.le_of_ble_eq_true rfl) (Nat.le_of_ble_eq_true rfl) ?_
  refine e_aload_n (pc := 4) (i := 0) dX9_init_4 rfl rfl ?_
  refine e_aload_n (pc := 5) (i := 1) dX9_init_5 rfl rfl ?_
  have k2 := hv.1
  replace hv := hv.2
  obtain ⟨w3, hw3⟩ : ∃ w3 : Wd, w3 = sR w 9 0 a0 a1 := ⟨_, rfl⟩
  replace hv := hv w3 hw3
  refine e_putR (pc := 6) dX9_init_6 fRX9_9 (Or.inr ⟨rfl, rfl, rfl⟩) rfl k2 ?_
  rw [← hw3]
  refine e_aload_n (pc := 9) (i := 0) dX9_init_9 rfl rfl ?_
  refine e_lload_n (pc := 10) (i := 2) dX9_init_10 rfl rfl ?_
  have k4 : wK w3 a0 = 10 := (by rw [hw3]; exact k2)
  obtain ⟨w5, hw5⟩ : ∃ w5 : Wd, w5 = sJ w3 9 1 a0 a2 := ⟨_, rfl⟩
  replace hv := hv w5 hw5
  refine e_putJ (pc := 11) dX9_init_11 fRX9_15 (Or.inr ⟨rfl, rfl, rfl⟩) rfl k4 ?_
  rw [← hw5]
  refine e_aload_n (pc := 14) (i := 0) dX9_init_14 rfl rfl ?_
  refine e_aload (pc := 15) (i := 4) dX9_init_15 rfl ?_
  have k6 : wK w5 a0 = 10 := (by rw [hw5]; exact k4)
  obtain ⟨w7, hw7⟩ : ∃ w7 : Wd, w7 = sR w5 9 2 a0 a4 := ⟨_, rfl⟩
  replace hv := hv w7 hw7
  refine e_putR (pc := 17) dX9_init_17 fRX9_19 (Or.inr ⟨rfl, rfl, rfl⟩) rfl k6 ?_
  rw [← hw7]
  refine e_aload_n (pc := 20) (i := 0) dX9_init_20 rfl rfl ?_
  refine e_aload (pc := 21) (i := 5) dX9_init_21 rfl ?_
  have k8 : wK w7 a0 = 10 := (by rw [hw7]; exact k6)
  obtain ⟨w9, hw9⟩ : ∃ w9 : Wd, w9 = sR w7 9 3 a0 a5 := ⟨_, rfl⟩
  replace hv := hv w9 hw9
  refine e_putR (pc := 23) dX9_init_23 fRX9_23 (Or.inr ⟨rfl, rfl, rfl⟩) rfl k8 ?_
  rw [← hw9]
  refine e_aload_n (pc := 26) (i := 0) dX9_init_26 rfl rfl ?_
  refine e_iconst (pc := 27) (v := 1) dX9_init_27 (by decide) ?_
  have k10 : wK w9 a0 = 10 := (by rw [hw9]; exact k8)
  obtain ⟨w11, hw11⟩ : ∃ w11 : Wd, w11 = sI w9 9 5 a0 1 := ⟨_, rfl⟩
  replace hv := hv w11 hw11
  refine e_putZ (pc := 28) dX9_init_28 fRX9_27 (Or.inl rfl) rfl k10 (Or.inr rfl) ?_
  rw [← hw11]
  exact e_vreturn (pc := 31) dX9_init_31 rfl ⟨rfl, hv⟩
set_option maxRecDepth 100000 in
set_option maxHeartbeats 4000000 in
theorem oX9_begin (X : Cx) (A : Wd → Prop) (a0 : Nat) (a1 : Nat) (w : Wd)
    (hv : wK w a0 = 10 ∧ ∀ w2 : Wd, w2 = sR w 9 8 a0 a1 → ∀ w4 : Wd, w4 = sR w2 9 9 a0 a1 → ∀ w6 : Wd, w6 = sR w4 9 10 a0 a1 → A w6) :
    Ct X bX9_begin mX9_begin [vR a0, vR a1] w (qV A) := by
  refine Ct.of (lv := [(0, vR a0), (1, vR a1)]) rfl (Nat.le_of_ble_eq_true rfl) rfl ?_
  refine e_aload_n (pc := 0) (i := 0) dX9_begin_0 rfl rfl ?_
  refine e_aload_n (pc := 1) (i := 1) dX9_begin_1 rfl rfl ?_
  have k1 := hv.1
  replace hv := hv.2
  obtain ⟨w2, hw2⟩ : ∃ w2 : Wd, w2 = sR w 9 8 a0 a1 := ⟨_, rfl⟩
  replace hv := hv w2 hw2
  refine e_putR (pc := 2) dX9_begin_2 fRX9_31 (Or.inl rfl) rfl k1 ?_
  rw [← hw2]
  refine e_aload_n (pc := 5) (i := 0) dX9_begin_5 rfl rfl ?_
  refine e_aload_n (pc := 6) (i := 1) dX9_begin_6 rfl rfl ?_
  have k3 : wK w2 a0 = 10 := (by rw [hw2]; exact k1)
  obtain ⟨w4, hw4⟩ : ∃ w4 : Wd, w4 = sR w2 9 9 a0 a1 := ⟨_, rfl⟩
  replace hv := hv w4 hw4
  refine e_putR (pc := 7) dX9_begin_7 fRX9_35 (Or.inl rfl) rfl k3 ?_
  rw [← hw4]
  refine e_aload_n (pc := 10) (i := 0) dX9_begin_10 rfl rfl ?_
  refine e_aload_n (pc := 11) (i := 1) dX9_begin_11 rfl rfl ?_
  have k5 : wK w4 a0 = 10 := (by rw [hw4]; exact k3)
  obtain ⟨w6, hw6⟩ : ∃ w6 : Wd, w6 = sR w4 9 10 a0 a1 := ⟨_, rfl⟩
  replace hv := hv w6 hw6
  refine e_putR (pc := 12) dX9_begin_12 fRX9_38 (Or.inl rfl) rfl k5 ?_
  rw [← hw6]
  exact e_vreturn (pc := 15) dX9_begin_15 rfl ⟨rfl, hv⟩
set_option maxRecDepth 100000 in
set_option maxHeartbeats 4000000 in
theorem oX9_number (X : Cx) (A : Int32 → Wd → Prop) (a0 : Nat) (w : Wd)
    (hv : wK w a0 = 10 ∧ ((¬ (wR w 9 8 a0) = 0) → wK w (wR w 9 8 a0) = 3 ∧ A (wI w 2 0 (wR w 9 8 a0)) w) ∧ (((wR w 9 8 a0) = 0) → A (-1) w)) :
    Ct X bX9_number mX9_number [vR a0] w (qI A) := by
  refine Ct.of (lv := [(0, vR a0)]) rfl (Nat.le_of_ble_eq_true rfl) rfl ?_
  refine e_aload_n (pc := 0) (i := 0) dX9_number_0 rfl rfl ?_
  have k1 := hv.1
  replace hv := hv.2
  refine e_getR (pc := 1) dX9_number_1 fRX9_31 rfl k1 ?_
  refine e_ifnonnull (pc := 4) (tgt := 11) dX9_number_4 (by decide) (fun h2 => ?_) (fun h2 => ?_)
  · replace hv := hv.1 h2
    refine e_aload_n (pc := 11) (i := 0) dX9_number_11 rfl rfl ?_
    refine e_getR (pc := 12) dX9_number_12 fRX9_31 rfl k1 ?_
    have k3 := hv.1
    replace hv := hv.2
    refine e_getI (pc := 15) dX9_number_15 fRX9_41 rfl k3 ?_
    exact e_ireturn (pc := 18) dX9_number_18 rfl ⟨_, rfl, hv⟩
  · replace hv := hv.2 h2
    refine e_iconst (pc := 7) (v := (-1)) dX9_number_7 (by decide) ?_
    refine e_goto (pc := 8) (tgt := 18) dX9_number_8 (by decide) ?_
    exact e_ireturn (pc := 18) dX9_number_18 rfl ⟨_, rfl, hv⟩
set_option maxRecDepth 100000 in
set_option maxHeartbeats 4000000 in
theorem oX9_livesAt (X : Cx) (A : Int32 → Wd → Prop) (a0 : Nat) (a1 : Nat) (w : Wd)
    (hv : wK w a0 = 10 ∧ Ct X bX0_happened mX0_happened [vR (wR w 9 2 a0), vR a1] w (qI fun x3 w2 => ((x3 = 0) → A 0 w2) ∧ ((¬ x3 = 0) → wK w2 a0 = 10 ∧ Ct X bX0_happened mX0_happened [vR (wR w2 9 4 a0), vR a1] w2 (qI fun x7 w6 => ((¬ x7 = 0) → A 0 w6) ∧ ((x7 = 0) → A 1 w6))))) :
    Ct X bX9_livesAt mX9_livesAt [vR a0, vR a1] w (qI A) := by
  refine Ct.of (lv := [(0, vR a0), (1, vR a1)]) rfl (Nat.le_of_ble_eq_true rfl) rfl ?_
  refine e_aload_n (pc := 0) (i := 0) dX9_livesAt_0 rfl rfl ?_
  have k1 := hv.1
  replace hv := hv.2
  refine e_getR (pc := 1) dX9_livesAt_1 fRX9_19 rfl k1 ?_
  refine e_aload_n (pc := 4) (i := 1) dX9_livesAt_4 rfl rfl ?_
  refine e_callSi (pc := 5) (st := []) (rc' := 0) (rs' := 0) (B' := bX0_happened) [vR (wR w 9 2 a0), vR a1] dX9_livesAt_5 vRX9_47 kX0_happened rfl rfl (Nat.le_of_ble_eq_true rfl) ⟨Nat.le_of_ble_eq_true rfl, Nat.le_of_ble_eq_true rfl⟩ rfl rfl hv (fun x3 w2 hv => ?_)
  refine e_if_eq (pc := 8) (tgt := 26) dX9_livesAt_8 (by decide) (fun h4 => ?_) (fun h4 => ?_)
  · replace hv := hv.1 h4
    refine e_iconst (pc := 26) (v := 0) dX9_livesAt_26 (by decide) ?_
    exact e_zreturn (pc := 27) dX9_livesAt_27 rfl (Or.inl rfl) ⟨_, rfl, hv⟩
  · replace hv := hv.2 h4
    refine e_aload_n (pc := 11) (i := 0) dX9_livesAt_11 rfl rfl ?_
    have k5 := hv.1
    replace hv := hv.2
    refine e_getR (pc := 12) dX9_livesAt_12 fRX9_53 rfl k5 ?_
    refine e_aload_n (pc := 15) (i := 1) dX9_livesAt_15 rfl rfl ?_
    refine e_callSi (pc := 16) (st := []) (rc' := 0) (rs' := 0) (B' := bX0_happened) [vR (wR w2 9 4 a0), vR a1] dX9_livesAt_16 vRX9_47 kX0_happened rfl rfl (Nat.le_of_ble_eq_true rfl) ⟨Nat.le_of_ble_eq_true rfl, Nat.le_of_ble_eq_true rfl⟩ rfl rfl hv (fun x7 w6 hv => ?_)
    refine e_if_ne (pc := 19) (tgt := 26) dX9_livesAt_19 (by decide) (fun h8 => ?_) (fun h8 => ?_)
    · replace hv := hv.1 h8
      refine e_iconst (pc := 26) (v := 0) dX9_livesAt_26 (by decide) ?_
      exact e_zreturn (pc := 27) dX9_livesAt_27 rfl (Or.inl rfl) ⟨_, rfl, hv⟩
    · replace hv := hv.2 h8
      refine e_iconst (pc := 22) (v := 1) dX9_livesAt_22 (by decide) ?_
      refine e_goto (pc := 23) (tgt := 27) dX9_livesAt_23 (by decide) ?_
      exact e_zreturn (pc := 27) dX9_livesAt_27 rfl (Or.inr rfl) ⟨_, rfl, hv⟩
set_option maxRecDepth 100000 in
set_option maxHeartbeats 4000000 in
theorem oX9_replaceLeaf (X : Cx) (A : Wd → Prop) (a0 : Nat) (a1 : Nat) (a2 : Nat) (a3 : Nat) (w : Wd)
    (hv : wK w a1 = 3 ∧ ∀ w2 : Wd, w2 = sI w 2 5 a1 1 → wK w2 a2 = 3 ∧ ∀ w5 : Wd, w5 = sR w2 2 7 a2 (wR w2 2 7 a1) → ∀ w7 : Wd, w7 = sR w5 2 8 a2 a3 → wK w7 a3 = 3 ∧ ∀ w9 : Wd, w9 = sR w7 2 7 a3 a2 → ∀ w12 : Wd, w12 = sR w9 2 8 a3 (wR w9 2 8 a1) → ((¬ (wR w12 2 7 a1) = 0) → wK w12 (wR w12 2 7 a1) = 3 ∧ ∀ w16 : Wd, w16 = sR w12 2 8 (wR w12 2 7 a1) a2 → ((¬ (wR w16 2 8 a1) = 0) → wK w16 (wR w16 2 8 a1) = 3 ∧ ∀ w20 : Wd, w20 = sR w16 2 7 (wR w16 2 8 a1) a3 → A w20) ∧ (((wR w16 2 8 a1) = 0) → wK w16 a0 = 10 ∧ ∀ w22 : Wd, w22 = sR w16 9 10 a0 a3 → A w22)) ∧ (((wR w12 2 7 a1) = 0) → wK w12 a0 = 10 ∧ ∀ w24 : Wd, w24 = sR w12 9 9 a0 a2 → ((¬ (wR w24 2 8 a1) = 0) → wK w24 (wR w24 2 8 a1) = 3 ∧ ∀ w28 : Wd, w28 = sR w24 2 7 (wR w24 2 8 a1) a3 → A w28) ∧ (((wR w24 2 8 a1) = 0) → ∀ w30 : Wd, w30 = sR w24 9 10 a0 a3 → A w30))) :
    Ct X bX9_replaceLeaf mX9_replaceLeaf [vR a0, vR a1, vR a2, vR a3] w (qV A) := by
  refine Ct.of (lv := [(0, vR a0), (1, vR a1), (2, vR a2), (3, vR a3)]) rfl (Nat.le_of_ble_eq_true rfl) rfl ?_
  refine e_aload_n (pc := 0) (i := 1) dX9_replaceLeaf_0 rfl rfl ?_
  refine e_iconst (pc := 1) (v := 1) dX9_replaceLeaf_1 (by decide) ?_
  have k1 := hv.1
  replace hv := hv.2
  obtain ⟨w2, hw2⟩ : ∃ w2 : Wd, w2 = sI w 2 5 a1 1 := ⟨_, rfl⟩
  replace hv := hv w2 hw2
  refine e_putZ (pc := 2) dX9_replaceLeaf_2 fRX9_56 (Or.inl rfl) rfl k1 (Or.inr rfl) ?_
  rw [← hw2]
  refine e_aload_n (pc := 5) (i := 2) dX9_replaceLeaf_5 rfl rfl ?_
  refine e_aload_n (pc := 6) (i := 1) dX9_replaceLeaf_6 rfl rfl ?_
  have k3 : wK w2 a1 = 3 := (by rw [hw2]; exact k1)
  refine e_getR (pc := 7) dX9_replaceLeaf_7 fRX9_59 rfl k3 ?_
  have k4 := hv.1
  replace hv := hv.2
  obtain ⟨w5, hw5⟩ : ∃ w5 : Wd, w5 = sR w2 2 7 a2 (wR w2 2 7 a1) := ⟨_, rfl⟩
  replace hv := hv w5 hw5
  refine e_putR (pc := 10) dX9_replaceLeaf_10 fRX9_59 (Or.inl rfl) rfl k4 ?_
  rw [← hw5]
  refine e_aload_n (pc := 13) (i := 2) dX9_replaceLeaf_13 rfl rfl ?_
  refine e_aload_n (pc := 14) (i := 3) dX9_replaceLeaf_14 rfl rfl ?_
  have k6 : wK w5 a2 = 3 := (by rw [hw5]; exact k4)
  obtain ⟨w7, hw7⟩ : ∃ w7 : Wd, w7 = sR w5 2 8 a2 a3 := ⟨_, rfl⟩
  replace hv := hv w7 hw7
  refine e_putR (pc := 15) dX9_replaceLeaf_15 fRX9_62 (Or.inl rfl) rfl k6 ?_
  rw [← hw7]
  refine e_aload_n (pc := 18) (i := 3) dX9_replaceLeaf_18 rfl rfl ?_
  refine e_aload_n (pc := 19) (i := 2) dX9_replaceLeaf_19 rfl rfl ?_
  have k8 := hv.1
  replace hv := hv.2
  obtain ⟨w9, hw9⟩ : ∃ w9 : Wd, w9 = sR w7 2 7 a3 a2 := ⟨_, rfl⟩
  replace hv := hv w9 hw9
  refine e_putR (pc := 20) dX9_replaceLeaf_20 fRX9_59 (Or.inl rfl) rfl k8 ?_
  rw [← hw9]
  refine e_aload_n (pc := 23) (i := 3) dX9_replaceLeaf_23 rfl rfl ?_
  refine e_aload_n (pc := 24) (i := 1) dX9_replaceLeaf_24 rfl rfl ?_
  have k10 : wK w9 a1 = 3 := (by rw [hw9]; exact (by rw [hw7]; exact (by rw [hw5]; exact k3)))
  refine e_getR (pc := 25) dX9_replaceLeaf_25 fRX9_62 rfl k10 ?_
  have k11 : wK w9 a3 = 3 := (by rw [hw9]; exact k8)
  obtain ⟨w12, hw12⟩ : ∃ w12 : Wd, w12 = sR w9 2 8 a3 (wR w9 2 8 a1) := ⟨_, rfl⟩
  replace hv := hv w12 hw12
  refine e_putR (pc := 28) dX9_replaceLeaf_28 fRX9_62 (Or.inl rfl) rfl k11 ?_
  rw [← hw12]
  refine e_aload_n (pc := 31) (i := 1) dX9_replaceLeaf_31 rfl rfl ?_
  have k13 : wK w12 a1 = 3 := (by rw [hw12]; exact k10)
  refine e_getR (pc := 32) dX9_replaceLeaf_32 fRX9_59 rfl k13 ?_
  refine e_ifnonnull (pc := 35) (tgt := 46) dX9_replaceLeaf_35 (by decide) (fun h14 => ?_) (fun h14 => ?_)
  · replace hv := hv.1 h14
    refine e_aload_n (pc := 46) (i := 1) dX9_replaceLeaf_46 rfl rfl ?_
    refine e_getR (pc := 47) dX9_replaceLeaf_47 fRX9_59 rfl k13 ?_
    refine e_aload_n (pc := 50) (i := 2) dX9_replaceLeaf_50 rfl rfl ?_
    have k15 := hv.1
    replace hv := hv.2
    obtain ⟨w16, hw16⟩ : ∃ w16 : Wd, w16 = sR w12 2 8 (wR w12 2 7 a1) a2 := ⟨_, rfl⟩
    replace hv := hv w16 hw16
    refine e_putR (pc := 51) dX9_replaceLeaf_51 fRX9_62 (Or.inl rfl) rfl k15 ?_
    rw [← hw16]
    refine e_aload_n (pc := 54) (i := 1) dX9_replaceLeaf_54 rfl rfl ?_
    have k17 : wK w16 a1 = 3 := (by rw [hw16]; exact k13)
    refine e_getR (pc := 55) dX9_replaceLeaf_55 fRX9_62 rfl k17 ?_
    refine e_ifnonnull (pc := 58) (tgt := 69) dX9_replaceLeaf_58 (by decide) (fun h18 => ?_) (fun h18 => ?_)
    · replace hv := hv.1 h18
      refine e_aload_n (pc := 69) (i := 1) dX9_replaceLeaf_69 rfl rfl ?_
      refine e_getR (pc := 70) dX9_replaceLeaf_70 fRX9_62 rfl k17 ?_
      refine e_aload_n (pc := 73) (i := 3) dX9_replaceLeaf_73 rfl rfl ?_
      have k19 := hv.1
      replace hv := hv.2
      obtain ⟨w20, hw20⟩ : ∃ w20 : Wd, w20 = sR w16 2 7 (wR w16 2 8 a1) a3 := ⟨_, rfl⟩
      replace hv := hv w20 hw20
      refine e_putR (pc := 74) dX9_replaceLeaf_74 fRX9_59 (Or.inl rfl) rfl k19 ?_
      rw [← hw20]
      exact e_vreturn (pc := 77) dX9_replaceLeaf_77 rfl ⟨rfl, hv⟩
    · replace hv := hv.2 h18
      refine e_aload_n (pc := 61) (i := 0) dX9_replaceLeaf_61 rfl rfl ?_
      refine e_aload_n (pc := 62) (i := 3) dX9_replaceLeaf_62 rfl rfl ?_
      have k21 := hv.1
      replace hv := hv.2
      obtain ⟨w22, hw22⟩ : ∃ w22 : Wd, w22 = sR w16 9 10 a0 a3 := ⟨_, rfl⟩
      replace hv := hv w22 hw22
      refine e_putR (pc := 63) dX9_replaceLeaf_63 fRX9_38 (Or.inl rfl) rfl k21 ?_
      rw [← hw22]
      refine e_goto (pc := 66) (tgt := 77) dX9_replaceLeaf_66 (by decide) ?_
      exact e_vreturn (pc := 77) dX9_replaceLeaf_77 rfl ⟨rfl, hv⟩
  · replace hv := hv.2 h14
    refine e_aload_n (pc := 38) (i := 0) dX9_replaceLeaf_38 rfl rfl ?_
    refine e_aload_n (pc := 39) (i := 2) dX9_replaceLeaf_39 rfl rfl ?_
    have k23 := hv.1
    replace hv := hv.2
    obtain ⟨w24, hw24⟩ : ∃ w24 : Wd, w24 = sR w12 9 9 a0 a2 := ⟨_, rfl⟩
    replace hv := hv w24 hw24
    refine e_putR (pc := 40) dX9_replaceLeaf_40 fRX9_35 (Or.inl rfl) rfl k23 ?_
    rw [← hw24]
    refine e_goto (pc := 43) (tgt := 54) dX9_replaceLeaf_43 (by decide) ?_
    refine e_aload_n (pc := 54) (i := 1) dX9_replaceLeaf_54 rfl rfl ?_
    have k25 : wK w24 a1 = 3 := (by rw [hw24]; exact k13)
    refine e_getR (pc := 55) dX9_replaceLeaf_55 fRX9_62 rfl k25 ?_
    refine e_ifnonnull (pc := 58) (tgt := 69) dX9_replaceLeaf_58 (by decide) (fun h26 => ?_) (fun h26 => ?_)
    · replace hv := hv.1 h26
      refine e_aload_n (pc := 69) (i := 1) dX9_replaceLeaf_69 rfl rfl ?_
      refine e_getR (pc := 70) dX9_replaceLeaf_70 fRX9_62 rfl k25 ?_
      refine e_aload_n (pc := 73) (i := 3) dX9_replaceLeaf_73 rfl rfl ?_
      have k27 := hv.1
      replace hv := hv.2
      obtain ⟨w28, hw28⟩ : ∃ w28 : Wd, w28 = sR w24 2 7 (wR w24 2 8 a1) a3 := ⟨_, rfl⟩
      replace hv := hv w28 hw28
      refine e_putR (pc := 74) dX9_replaceLeaf_74 fRX9_59 (Or.inl rfl) rfl k27 ?_
      rw [← hw28]
      exact e_vreturn (pc := 77) dX9_replaceLeaf_77 rfl ⟨rfl, hv⟩
    · replace hv := hv.2 h26
      refine e_aload_n (pc := 61) (i := 0) dX9_replaceLeaf_61 rfl rfl ?_
      refine e_aload_n (pc := 62) (i := 3) dX9_replaceLeaf_62 rfl rfl ?_
      have k29 : wK w24 a0 = 10 := (by rw [hw24]; exact k23)
      obtain ⟨w30, hw30⟩ : ∃ w30 : Wd, w30 = sR w24 9 10 a0 a3 := ⟨_, rfl⟩
      replace hv := hv w30 hw30
      refine e_putR (pc := 63) dX9_replaceLeaf_63 fRX9_38 (Or.inl rfl) rfl k29 ?_
      rw [← hw30]
      refine e_goto (pc := 66) (tgt := 77) dX9_replaceLeaf_66 (by decide) ?_
      exact e_vreturn (pc := 77) dX9_replaceLeaf_77 rfl ⟨rfl, hv⟩
abbrev jX9_owedBelow_8 (X : Cx) (A : Int64 → Wd → Prop) (l1 : Nat) (l2 : Int64) (l4 : Nat) (w : Wd) : Prop := EJ X mX9_owedBelow (vw X bX9_owedBelow (qJ A)) 0 0 8 [(1, vR l1), (2, vJ l2), (4, vR l4)] [] w
set_option maxRecDepth 100000 in
set_option maxHeartbeats 4000000 in
theorem tX9_owedBelow_8 (X : Cx) (A : Int64 → Wd → Prop) (l1 : Nat) (l2 : Int64) (l4 : Nat) (w : Wd)
    (hv : ((l4 = 0) → A l2 w) ∧ ((¬ l4 = 0) → ((l1 = 0) → wK w l4 = 3 ∧ jX9_owedBelow_8 X A l1 (l2 + (wJ w 2 4 l4)) (wR w 2 8 l4) w) ∧ ((¬ l1 = 0) → wK w l4 = 3 ∧ Ct X bX2_isBelow mX2_isBelow [vR l4, vR l1] w (qI fun x5 w4 => ((x5 = 0) → wK w4 l4 = 3 ∧ jX9_owedBelow_8 X A l1 l2 (wR w4 2 8 l4) w4) ∧ ((¬ x5 = 0) → wK w4 l4 = 3 ∧ jX9_owedBelow_8 X A l1 (l2 + (wJ w4 2 4 l4)) (wR w4 2 8 l4) w4))))) :
    jX9_owedBelow_8 X A l1 l2 l4 w := by
  refine e_aload (pc := 8) (i := 4) dX9_owedBelow_8 rfl ?_
  refine e_ifnull (pc := 10) (tgt := 44) dX9_owedBelow_10 (by decide) (fun h1 => ?_) (fun h1 => ?_)
  · replace hv := hv.1 h1
    refine e_lload_n (pc := 44) (i := 2) dX9_owedBelow_44 rfl rfl ?_
    exact e_lreturn (pc := 45) dX9_owedBelow_45 rfl ⟨_, rfl, hv⟩
  · replace hv := hv.2 h1
    refine e_aload_n (pc := 13) (i := 1) dX9_owedBelow_13 rfl rfl ?_
    refine e_ifnull (pc := 14) (tgt := 26) dX9_owedBelow_14 (by decide) (fun h2 => ?_) (fun h2 => ?_)
    · replace hv := hv.1 h2
      refine e_lload_n (pc := 26) (i := 2) dX9_owedBelow_26 rfl rfl ?_
      refine e_aload (pc := 27) (i := 4) dX9_owedBelow_27 rfl ?_
      have k3 := hv.1
      replace hv := hv.2
      refine e_getJ (pc := 29) dX9_owedBelow_29 fRX9_69 rfl k3 ?_
      refine e_ladd (pc := 32) dX9_owedBelow_32 ?_
      refine e_lstore_n (pc := 33) (i := 2) (lv' := [(1, vR l1), (2, vJ (l2 + (wJ w 2 4 l4))), (4, vR l4)]) dX9_owedBelow_33 rfl (by decide) rfl ?_
      refine e_aload (pc := 34) (i := 4) dX9_owedBelow_34 rfl ?_
      refine e_getR (pc := 36) dX9_owedBelow_36 fRX9_62 rfl k3 ?_
      refine e_astore (pc := 39) (i := 4) (lv' := [(1, vR l1), (2, vJ (l2 + (wJ w 2 4 l4))), (4, vR (wR w 2 8 l4))]) dX9_owedBelow_39 (by decide) rfl ?_
      refine e_goto (pc := 41) (tgt := 8) dX9_owedBelow_41 (by decide) ?_
      exact hv
    · replace hv := hv.2 h2
      refine e_aload (pc := 17) (i := 4) dX9_owedBelow_17 rfl ?_
      refine e_aload_n (pc := 19) (i := 1) dX9_owedBelow_19 rfl rfl ?_
      have k6 := hv.1
      replace hv := hv.2
      refine e_callVi (pc := 20) (ci := 2) (st := []) (rc' := 0) (rs' := 0) (B' := bX2_isBelow) [vR l1] dX9_owedBelow_20 vRX9_65 kX2_isBelow (by decide) rfl k6 rfl rfl (Nat.le_of_ble_eq_true rfl) ⟨Nat.le_of_ble_eq_true rfl, Nat.le_of_ble_eq_true rfl⟩ rfl rfl hv (fun x5 w4 hv => ?_)
      refine e_if_eq (pc := 23) (tgt := 34) dX9_owedBelow_23 (by decide) (fun h7 => ?_) (fun h7 => ?_)
      · replace hv := hv.1 h7
        refine e_aload (pc := 34) (i := 4) dX9_owedBelow_34 rfl ?_
        have k8 := hv.1
        replace hv := hv.2
        refine e_getR (pc := 36) dX9_owedBelow_36 fRX9_62 rfl k8 ?_
        refine e_astore (pc := 39) (i := 4) (lv' := [(1, vR l1), (2, vJ l2), (4, vR (wR w4 2 8 l4))]) dX9_owedBelow_39 (by decide) rfl ?_
        refine e_goto (pc := 41) (tgt := 8) dX9_owedBelow_41 (by decide) ?_
        exact hv
      · replace hv := hv.2 h7
        refine e_lload_n (pc := 26) (i := 2) dX9_owedBelow_26 rfl rfl ?_
        refine e_aload (pc := 27) (i := 4) dX9_owedBelow_27 rfl ?_
        have k9 := hv.1
        replace hv := hv.2
        refine e_getJ (pc := 29) dX9_owedBelow_29 fRX9_69 rfl k9 ?_
        refine e_ladd (pc := 32) dX9_owedBelow_32 ?_
        refine e_lstore_n (pc := 33) (i := 2) (lv' := [(1, vR l1), (2, vJ (l2 + (wJ w4 2 4 l4))), (4, vR l4)]) dX9_owedBelow_33 rfl (by decide) rfl ?_
        refine e_aload (pc := 34) (i := 4) dX9_owedBelow_34 rfl ?_
        refine e_getR (pc := 36) dX9_owedBelow_36 fRX9_62 rfl k9 ?_
        refine e_astore (pc := 39) (i := 4) (lv' := [(1, vR l1), (2, vJ (l2 + (wJ w4 2 4 l4))), (4, vR (wR w4 2 8 l4))]) dX9_owedBelow_39 (by decide) rfl ?_
        refine e_goto (pc := 41) (tgt := 8) dX9_owedBelow_41 (by decide) ?_
        exact hv
set_option maxRecDepth 100000 in
set_option maxHeartbeats 4000000 in
theorem oX9_owedBelow (X : Cx) (A : Int64 → Wd → Prop) (a0 : Nat) (a1 : Nat) (w : Wd)
    (hv : wK w a0 = 10 ∧ jX9_owedBelow_8 X A a1 0 (wR w 9 9 a0) w) :
    Ct X bX9_owedBelow mX9_owedBelow [vR a0, vR a1] w (qJ A) := by
  refine Ct.of (lv := [(0, vR a0), (1, vR a1)]) rfl (Nat.le_of_ble_eq_true rfl) rfl ?_
  refine e_lconst (pc := 0) (v := 0) dX9_owedBelow_0 (by decide) ?_
  refine e_lstore_n (pc := 1) (i := 2) (lv' := [(0, vR a0), (1, vR a1), (2, vJ 0)]) dX9_owedBelow_1 rfl (by decide) rfl ?_
  refine e_aload_n (pc := 2) (i := 0) dX9_owedBelow_2 rfl rfl ?_
  have k1 := hv.1
  replace hv := hv.2
  refine e_getR (pc := 3) dX9_owedBelow_3 fRX9_35 rfl k1 ?_
  refine e_astore (pc := 6) (i := 4) (lv' := [(0, vR a0), (1, vR a1), (2, vJ 0), (4, vR (wR w 9 9 a0))]) dX9_owedBelow_6 (by decide) rfl ?_
  exact EJ.drop [1, 2, 4] rfl hv
abbrev jX9_spreadDue_11 (X : Cx) (A : Wd → Prop) (l0 : Nat) (l1 : Int32) (l2 : Int64) (l4 : Int64) (l6 : Nat) (w : Wd) : Prop := EJ X mX9_spreadDue (vw X bX9_spreadDue (qV A)) 0 0 11 [(0, vR l0), (1, vI l1), (2, vJ l2), (4, vJ l4), (6, vR l6)] [] w
set_option maxRecDepth 100000 in
set_option maxHeartbeats 4000000 in
theorem tX9_spreadDue_11 (X : Cx) (A : Wd → Prop) (l0 : Nat) (l1 : Int32) (l2 : Int64) (l4 : Int64) (l6 : Nat) (w : Wd)
    (hv : ((l6 = 0) → A w) ∧ ((¬ l6 = 0) → wK w l6 = 3 ∧ wK w l0 = 10 ∧ wK w (wR w 9 3 l0) = 9 ∧ Ct X bX8_dueOf mX8_dueOf [vR (wR w 9 3 l0), vJ (l2 + (wJ w 2 4 l6)), vI l1] w (qJ fun x5 w4 => wK w4 l6 = 3 ∧ ∀ w8 : Wd, w8 = sJ w4 2 9 l6 (x5 - l4) → jX9_spreadDue_11 X A l0 l1 (l2 + (wJ w 2 4 l6)) x5 (wR w8 2 8 l6) w8))) :
    jX9_spreadDue_11 X A l0 l1 l2 l4 l6 w := by
  refine e_aload (pc := 11) (i := 6) dX9_spreadDue_11 rfl ?_
  refine e_ifnull (pc := 13) (tgt := 59) dX9_spreadDue_13 (by decide) (fun h1 => ?_) (fun h1 => ?_)
  · replace hv := hv.1 h1
    exact e_vreturn (pc := 59) dX9_spreadDue_59 rfl ⟨rfl, hv⟩
  · replace hv := hv.2 h1
    refine e_lload_n (pc := 16) (i := 2) dX9_spreadDue_16 rfl rfl ?_
    refine e_aload (pc := 17) (i := 6) dX9_spreadDue_17 rfl ?_
    have k2 := hv.1
    replace hv := hv.2
    refine e_getJ (pc := 19) dX9_spreadDue_19 fRX9_69 rfl k2 ?_
    refine e_ladd (pc := 22) dX9_spreadDue_22 ?_
    refine e_lstore_n (pc := 23) (i := 2) (lv' := [(0, vR l0), (1, vI l1), (2, vJ (l2 + (wJ w 2 4 l6))), (4, vJ l4), (6, vR l6)]) dX9_spreadDue_23 rfl (by decide) rfl ?_
    refine e_aload_n (pc := 24) (i := 0) dX9_spreadDue_24 rfl rfl ?_
    have k3 := hv.1
    replace hv := hv.2
    refine e_getR (pc := 25) dX9_spreadDue_25 fRX9_23 rfl k3 ?_
    refine e_lload_n (pc := 28) (i := 2) dX9_spreadDue_28 rfl rfl ?_
    refine e_iload_n (pc := 29) (i := 1) dX9_spreadDue_29 rfl rfl ?_
    have k6 := hv.1
    replace hv := hv.2
    refine e_callVj (pc := 30) (ci := 8) (st := []) (rc' := 0) (rs' := 0) (B' := bX8_dueOf) [vJ (l2 + (wJ w 2 4 l6)), vI l1] dX9_spreadDue_30 vRX9_72 kX8_dueOf (by decide) rfl k6 rfl rfl (Nat.le_of_ble_eq_true rfl) ⟨Nat.le_of_ble_eq_true rfl, Nat.le_of_ble_eq_true rfl⟩ rfl rfl hv (fun x5 w4 hv => ?_)
    refine e_lstore (pc := 33) (i := 7) (lv' := [(0, vR l0), (1, vI l1), (2, vJ (l2 + (wJ w 2 4 l6))), (4, vJ l4), (6, vR l6), (7, vJ x5)]) dX9_spreadDue_33 (by decide) rfl ?_
    refine e_aload (pc := 35) (i := 6) dX9_spreadDue_35 rfl ?_
    refine e_lload (pc := 37) (i := 7) dX9_spreadDue_37 rfl ?_
    refine e_lload (pc := 39) (i := 4) dX9_spreadDue_39 rfl ?_
    refine e_lsub (pc := 41) dX9_spreadDue_41 ?_
    have k7 := hv.1
    replace hv := hv.2
    obtain ⟨w8, hw8⟩ : ∃ w8 : Wd, w8 = sJ w4 2 9 l6 (x5 - l4) := ⟨_, rfl⟩
    replace hv := hv w8 hw8
    refine e_putJ (pc := 42) dX9_spreadDue_42 fRX9_78 (Or.inl rfl) rfl k7 ?_
    rw [← hw8]
    refine e_lload (pc := 45) (i := 7) dX9_spreadDue_45 rfl ?_
    refine e_lstore (pc := 47) (i := 4) (lv' := [(0, vR l0), (1, vI l1), (2, vJ (l2 + (wJ w 2 4 l6))), (4, vJ x5), (6, vR l6), (7, vJ x5)]) dX9_spreadDue_47 (by decide) rfl ?_
    refine e_aload (pc := 49) (i := 6) dX9_spreadDue_49 rfl ?_
    have k9 : wK w8 l6 = 3 := (by rw [hw8]; exact k7)
    refine e_getR (pc := 51) dX9_spreadDue_51 fRX9_62 rfl k9 ?_
    refine e_astore (pc := 54) (i := 6) (lv' := [(0, vR l0), (1, vI l1), (2, vJ (l2 + (wJ w 2 4 l6))), (4, vJ x5), (6, vR (wR w8 2 8 l6)), (7, vJ x5)]) dX9_spreadDue_54 (by decide) rfl ?_
    refine e_goto (pc := 56) (tgt := 11) dX9_spreadDue_56 (by decide) ?_
    exact EJ.drop [0, 1, 2, 4, 6] rfl hv
set_option maxRecDepth 100000 in
set_option maxHeartbeats 4000000 in
theorem oX9_spreadDue (X : Cx) (A : Wd → Prop) (a0 : Nat) (a1 : Int32) (w : Wd)
    (hv : wK w a0 = 10 ∧ jX9_spreadDue_11 X A a0 a1 0 0 (wR w 9 9 a0) w) :
    Ct X bX9_spreadDue mX9_spreadDue [vR a0, vI a1] w (qV A) := by
  refine Ct.of (lv := [(0, vR a0), (1, vI a1)]) rfl (Nat.le_of_ble_eq_true rfl) rfl ?_
  refine e_lconst (pc := 0) (v := 0) dX9_spreadDue_0 (by decide) ?_
  refine e_lstore_n (pc := 1) (i := 2) (lv' := [(0, vR a0), (1, vI a1), (2, vJ 0)]) dX9_spreadDue_1 rfl (by decide) rfl ?_
  refine e_lconst (pc := 2) (v := 0) dX9_spreadDue_2 (by decide) ?_
  refine e_lstore (pc := 3) (i := 4) (lv' := [(0, vR a0), (1, vI a1), (2, vJ 0), (4, vJ 0)]) dX9_spreadDue_3 (by decide) rfl ?_
  refine e_aload_n (pc := 5) (i := 0) dX9_spreadDue_5 rfl rfl ?_
  have k1 := hv.1
  replace hv := hv.2
  refine e_getR (pc := 6) dX9_spreadDue_6 fRX9_35 rfl k1 ?_
  refine e_astore (pc := 9) (i := 6) (lv' := [(0, vR a0), (1, vI a1), (2, vJ 0), (4, vJ 0), (6, vR (wR w 9 9 a0))]) dX9_spreadDue_9 (by decide) rfl ?_
  exact hv
abbrev jX9_leafDueBelow_8 (X : Cx) (A : Int64 → Wd → Prop) (l1 : Nat) (l2 : Int64) (l4 : Nat) (w : Wd) : Prop := EJ X mX9_leafDueBelow (vw X bX9_leafDueBelow (qJ A)) 0 0 8 [(1, vR l1), (2, vJ l2), (4, vR l4)] [] w
set_option maxRecDepth 100000 in
set_option maxHeartbeats 4000000 in
theorem tX9_leafDueBelow_8 (X : Cx) (A : Int64 → Wd → Prop) (l1 : Nat) (l2 : Int64) (l4 : Nat) (w : Wd)
    (hv : ((l4 = 0) → A l2 w) ∧ ((¬ l4 = 0) → wK w l4 = 3 ∧ Ct X bX2_isBelow mX2_isBelow [vR l4, vR l1] w (qI fun x3 w2 => ((x3 = 0) → wK w2 l4 = 3 ∧ jX9_leafDueBelow_8 X A l1 l2 (wR w2 2 8 l4) w2) ∧ ((¬ x3 = 0) → wK w2 l4 = 3 ∧ jX9_leafDueBelow_8 X A l1 (l2 + (wJ w2 2 9 l4)) (wR w2 2 8 l4) w2)))) :
    jX9_leafDueBelow_8 X A l1 l2 l4 w := by
  refine e_aload (pc := 8) (i := 4) dX9_leafDueBelow_8 rfl ?_
  refine e_ifnull (pc := 10) (tgt := 40) dX9_leafDueBelow_10 (by decide) (fun h1 => ?_) (fun h1 => ?_)
  · replace hv := hv.1 h1
    refine e_lload_n (pc := 40) (i := 2) dX9_leafDueBelow_40 rfl rfl ?_
    exact e_lreturn (pc := 41) dX9_leafDueBelow_41 rfl ⟨_, rfl, hv⟩
  · replace hv := hv.2 h1
    refine e_aload (pc := 13) (i := 4) dX9_leafDueBelow_13 rfl ?_
    refine e_aload_n (pc := 15) (i := 1) dX9_leafDueBelow_15 rfl rfl ?_
    have k4 := hv.1
    replace hv := hv.2
    refine e_callVi (pc := 16) (ci := 2) (st := []) (rc' := 0) (rs' := 0) (B' := bX2_isBelow) [vR l1] dX9_leafDueBelow_16 vRX9_65 kX2_isBelow (by decide) rfl k4 rfl rfl (Nat.le_of_ble_eq_true rfl) ⟨Nat.le_of_ble_eq_true rfl, Nat.le_of_ble_eq_true rfl⟩ rfl rfl hv (fun x3 w2 hv => ?_)
    refine e_if_eq (pc := 19) (tgt := 30) dX9_leafDueBelow_19 (by decide) (fun h5 => ?_) (fun h5 => ?_)
    · replace hv := hv.1 h5
      refine e_aload (pc := 30) (i := 4) dX9_leafDueBelow_30 rfl ?_
      have k6 := hv.1
      replace hv := hv.2
      refine e_getR (pc := 32) dX9_leafDueBelow_32 fRX9_62 rfl k6 ?_
      refine e_astore (pc := 35) (i := 4) (lv' := [(1, vR l1), (2, vJ l2), (4, vR (wR w2 2 8 l4))]) dX9_leafDueBelow_35 (by decide) rfl ?_
      refine e_goto (pc := 37) (tgt := 8) dX9_leafDueBelow_37 (by decide) ?_
      exact hv
    · replace hv := hv.2 h5
      refine e_lload_n (pc := 22) (i := 2) dX9_leafDueBelow_22 rfl rfl ?_
      refine e_aload (pc := 23) (i := 4) dX9_leafDueBelow_23 rfl ?_
      have k7 := hv.1
      replace hv := hv.2
      refine e_getJ (pc := 25) dX9_leafDueBelow_25 fRX9_78 rfl k7 ?_
      refine e_ladd (pc := 28) dX9_leafDueBelow_28 ?_
      refine e_lstore_n (pc := 29) (i := 2) (lv' := [(1, vR l1), (2, vJ (l2 + (wJ w2 2 9 l4))), (4, vR l4)]) dX9_leafDueBelow_29 rfl (by decide) rfl ?_
      refine e_aload (pc := 30) (i := 4) dX9_leafDueBelow_30 rfl ?_
      refine e_getR (pc := 32) dX9_leafDueBelow_32 fRX9_62 rfl k7 ?_
      refine e_astore (pc := 35) (i := 4) (lv' := [(1, vR l1), (2, vJ (l2 + (wJ w2 2 9 l4))), (4, vR (wR w2 2 8 l4))]) dX9_leafDueBelow_35 (by decide) rfl ?_
      refine e_goto (pc := 37) (tgt := 8) dX9_leafDueBelow_37 (by decide) ?_
      exact hv
set_option maxRecDepth 100000 in
set_option maxHeartbeats 4000000 in
theorem oX9_leafDueBelow (X : Cx) (A : Int64 → Wd → Prop) (a0 : Nat) (a1 : Nat) (w : Wd)
    (hv : wK w a0 = 10 ∧ jX9_leafDueBelow_8 X A a1 0 (wR w 9 9 a0) w) :
    Ct X bX9_leafDueBelow mX9_leafDueBelow [vR a0, vR a1] w (qJ A) := by
  refine Ct.of (lv := [(0, vR a0), (1, vR a1)]) rfl (Nat.le_of_ble_eq_true rfl) rfl ?_
  refine e_lconst (pc := 0) (v := 0) dX9_leafDueBelow_0 (by decide) ?_
  refine e_lstore_n (pc := 1) (i := 2) (lv' := [(0, vR a0), (1, vR a1), (2, vJ 0)]) dX9_leafDueBelow_1 rfl (by decide) rfl ?_
  refine e_aload_n (pc := 2) (i := 0) dX9_leafDueBelow_2 rfl rfl ?_
  have k1 := hv.1
  replace hv := hv.2
  refine e_getR (pc := 3) dX9_leafDueBelow_3 fRX9_35 rfl k1 ?_
  refine e_astore (pc := 6) (i := 4) (lv' := [(0, vR a0), (1, vR a1), (2, vJ 0), (4, vR (wR w 9 9 a0))]) dX9_leafDueBelow_6 (by decide) rfl ?_
  exact EJ.drop [1, 2, 4] rfl hv
