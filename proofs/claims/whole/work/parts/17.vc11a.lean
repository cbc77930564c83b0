set_option maxRecDepth 100000 in
set_option maxHeartbeats 4000000 in
theorem oX11_refuse (X : Cx) (A : Int32 → Wd → Prop) (a0 : Nat) (a1 : Int32) (w : Wd)
    (hv : wK w a0 = 12 ∧ ∀ w2 : Wd, w2 = sI w 11 41 a0 a1 → A (-1) w2) :
    Ct X bX11_refuse mX11_refuse [vR a0, vI a1] w (qI A) := by
  refine Ct.of (lv := [(0, vR a0), (1, vI a1)]) rfl (Nat.le_of_ble_eq_true rfl) rfl ?_
  refine e_aload_n (pc := 0) (i := 0) dX11_refuse_0 rfl rfl ?_
  refine e_iload_n (pc := 1) (i := 1) dX11_refuse_1 rfl rfl ?_
  have k1 := hv.1
  replace hv := hv.2
  obtain ⟨w2, hw2⟩ : ∃ w2 : Wd, w2 = sI w 11 41 a0 a1 := ⟨_, rfl⟩
  replace hv := hv w2 hw2
  refine e_putI (pc := 2) dX11_refuse_2 fRX11_163 (Or.inl rfl) rfl k1 ?_
  rw [← hw2]
  refine e_iconst (pc := 5) (v := (-1)) dX11_refuse_5 (by decide) ?_
  exact e_ireturn (pc := 6) dX11_refuse_6 rfl ⟨_, rfl, hv⟩
set_option maxRecDepth 100000 in
set_option maxHeartbeats 4000000 in
theorem oX11_no (X : Cx) (A : Int32 → Wd → Prop) (a0 : Nat) (a1 : Int32) (w : Wd)
    (hv : wK w a0 = 12 ∧ ∀ w2 : Wd, w2 = sI w 11 41 a0 a1 → A 0 w2) :
    Ct X bX11_no mX11_no [vR a0, vI a1] w (qI A) := by
  refine Ct.of (lv := [(0, vR a0), (1, vI a1)]) rfl (Nat.le_of_ble_eq_true rfl) rfl ?_
  refine e_aload_n (pc := 0) (i := 0) dX11_no_0 rfl rfl ?_
  refine e_iload_n (pc := 1) (i := 1) dX11_no_1 rfl rfl ?_
  have k1 := hv.1
  replace hv := hv.2
  obtain ⟨w2, hw2⟩ : ∃ w2 : Wd, w2 = sI w 11 41 a0 a1 := ⟨_, rfl⟩
  replace hv := hv w2 hw2
  refine e_putI (pc := 2) dX11_no_2 fRX11_163 (Or.inl rfl) rfl k1 ?_
  rw [← hw2]
  refine e_iconst (pc := 5) (v := 0) dX11_no_5 (by decide) ?_
  exact e_zreturn (pc := 6) dX11_no_6 rfl (Or.inl rfl) ⟨_, rfl, hv⟩
set_option maxRecDepth 100000 in
set_option maxHeartbeats 4000000 in
theorem oX11_dateNow (X : Cx) (A : Int32 → Wd → Prop) (a0 : Nat) (w : Wd)
    (hv : wK w a0 = 12 ∧ ((¬ (wI w 11 40 a0) = (-1)) → A (wI w 11 40 a0) w) ∧ (((wI w 11 40 a0) = (-1)) → A (wI w 11 39 a0) w)) :
    Ct X bX11_dateNow mX11_dateNow [vR a0] w (qI A) := by
  refine Ct.of (lv := [(0, vR a0)]) rfl (Nat.le_of_ble_eq_true rfl) rfl ?_
  refine e_aload_n (pc := 0) (i := 0) dX11_dateNow_0 rfl rfl ?_
  have k1 := hv.1
  replace hv := hv.2
  refine e_getI (pc := 1) dX11_dateNow_1 fRX11_120 rfl k1 ?_
  refine e_iconst (pc := 4) (v := (-1)) dX11_dateNow_4 (by decide) ?_
  refine e_icmp_ne (pc := 5) (tgt := 15) dX11_dateNow_5 (by decide) (fun h2 => ?_) (fun h2 => ?_)
  · replace hv := hv.1 h2
    refine e_aload_n (pc := 15) (i := 0) dX11_dateNow_15 rfl rfl ?_
    refine e_getI (pc := 16) dX11_dateNow_16 fRX11_120 rfl k1 ?_
    exact e_ireturn (pc := 19) dX11_dateNow_19 rfl ⟨_, rfl, hv⟩
  · replace hv := hv.2 h2
    refine e_aload_n (pc := 8) (i := 0) dX11_dateNow_8 rfl rfl ?_
    refine e_getI (pc := 9) dX11_dateNow_9 fRX11_166 rfl k1 ?_
    refine e_goto (pc := 12) (tgt := 19) dX11_dateNow_12 (by decide) ?_
    exact e_ireturn (pc := 19) dX11_dateNow_19 rfl ⟨_, rfl, hv⟩
set_option maxRecDepth 100000 in
set_option maxHeartbeats 4000000 in
theorem oX11_isEntry (X : Cx) (A : Int32 → Wd → Prop) (a0 : Nat) (a1 : Int32) (w : Wd)
    (hv : ((a1 < 1) → A 0 w) ∧ ((¬ a1 < 1) → wK w a0 = 12 ∧ (((wI w 11 30 a0) < a1) → A 0 w) ∧ ((¬ (wI w 11 30 a0) < a1) → A 1 w))) :
    Ct X bX11_isEntry mX11_isEntry [vR a0, vI a1] w (qI A) := by
  refine Ct.of (lv := [(0, vR a0), (1, vI a1)]) rfl (Nat.le_of_ble_eq_true rfl) rfl ?_
  refine e_iload_n (pc := 0) (i := 1) dX11_isEntry_0 rfl rfl ?_
  refine e_iconst (pc := 1) (v := 1) dX11_isEntry_1 (by decide) ?_
  refine e_icmp_lt (pc := 2) (tgt := 17) dX11_isEntry_2 (by decide) (fun h1 => ?_) (fun h1 => ?_)
  · replace hv := hv.1 h1
    refine e_iconst (pc := 17) (v := 0) dX11_isEntry_17 (by decide) ?_
    exact e_zreturn (pc := 18) dX11_isEntry_18 rfl (Or.inl rfl) ⟨_, rfl, hv⟩
  · replace hv := hv.2 h1
    refine e_iload_n (pc := 5) (i := 1) dX11_isEntry_5 rfl rfl ?_
    refine e_aload_n (pc := 6) (i := 0) dX11_isEntry_6 rfl rfl ?_
    have k2 := hv.1
    replace hv := hv.2
    refine e_getI (pc := 7) dX11_isEntry_7 fRX11_169 rfl k2 ?_
    refine e_icmp_gt (pc := 10) (tgt := 17) dX11_isEntry_10 (by decide) (fun h3 => ?_) (fun h3 => ?_)
    · replace hv := hv.1 h3
      refine e_iconst (pc := 17) (v := 0) dX11_isEntry_17 (by decide) ?_
      exact e_zreturn (pc := 18) dX11_isEntry_18 rfl (Or.inl rfl) ⟨_, rfl, hv⟩
    · replace hv := hv.2 h3
      refine e_iconst (pc := 13) (v := 1) dX11_isEntry_13 (by decide) ?_
      refine e_goto (pc := 14) (tgt := 18) dX11_isEntry_14 (by decide) ?_
      exact e_zreturn (pc := 18) dX11_isEntry_18 rfl (Or.inr rfl) ⟨_, rfl, hv⟩
set_option maxRecDepth 100000 in
set_option maxHeartbeats 4000000 in
theorem oX11_wrong (X : Cx) (A : Int32 → Wd → Prop) (a0 : Nat) (a1 : Int32) (a2 : Int32) (w : Wd)
    (hv : ((a1 < 0) → A 1 w) ∧ ((¬ a1 < 0) → wK w a0 = 12 ∧ ((a1 < (wI w 11 2 a0)) → ((a2 < 0) → A 2 w) ∧ ((¬ a2 < 0) → wK w (wR w 11 0 a0) = 13 ∧ vp_in a1 (wL w (wR w 11 0 a0)) ∧ ((a2 < (xI w (wR w 11 0 a0) a1.toNatClampNeg)) → wK w (wR w 11 1 a0) = 15 ∧ vp_in ((60 * a1) + a2) (wL w (wR w 11 1 a0)) ∧ (((xI w (wR w 11 1 a0) ((60 * a1) + a2).toNatClampNeg) = 0) → A 0 w) ∧ ((¬ (xI w (wR w 11 1 a0) ((60 * a1) + a2).toNatClampNeg) = 0) → A 3 w)) ∧ ((¬ a2 < (xI w (wR w 11 0 a0) a1.toNatClampNeg)) → A 2 w))) ∧ ((¬ a1 < (wI w 11 2 a0)) → A 1 w))) :
    Ct X bX11_wrong mX11_wrong [vR a0, vI a1, vI a2] w (qI A) := by
  refine Ct.of (lv := [(0, vR a0), (1, vI a1), (2, vI a2)]) rfl (Nat.le_of_ble_eq_true rfl) rfl ?_
  refine e_iload_n (pc := 0) (i := 1) dX11_wrong_0 rfl rfl ?_
  refine e_if_lt (pc := 1) (tgt := 12) dX11_wrong_1 (by decide) (fun h1 => ?_) (fun h1 => ?_)
  · replace hv := hv.1 h1
    refine e_iconst (pc := 12) (v := 1) dX11_wrong_12 (by decide) ?_
    exact e_ireturn (pc := 13) dX11_wrong_13 rfl ⟨_, rfl, hv⟩
  · replace hv := hv.2 h1
    refine e_iload_n (pc := 4) (i := 1) dX11_wrong_4 rfl rfl ?_
    refine e_aload_n (pc := 5) (i := 0) dX11_wrong_5 rfl rfl ?_
    have k2 := hv.1
    replace hv := hv.2
    refine e_getI (pc := 6) dX11_wrong_6 fRX11_172 rfl k2 ?_
    refine e_icmp_lt (pc := 9) (tgt := 14) dX11_wrong_9 (by decide) (fun h3 => ?_) (fun h3 => ?_)
    · replace hv := hv.1 h3
      refine e_iload_n (pc := 14) (i := 2) dX11_wrong_14 rfl rfl ?_
      refine e_if_lt (pc := 15) (tgt := 28) dX11_wrong_15 (by decide) (fun h4 => ?_) (fun h4 => ?_)
      · replace hv := hv.1 h4
        refine e_iconst (pc := 28) (v := 2) dX11_wrong_28 (by decide) ?_
        exact e_ireturn (pc := 29) dX11_wrong_29 rfl ⟨_, rfl, hv⟩
      · replace hv := hv.2 h4
        refine e_iload_n (pc := 18) (i := 2) dX11_wrong_18 rfl rfl ?_
        refine e_aload_n (pc := 19) (i := 0) dX11_wrong_19 rfl rfl ?_
        refine e_getR (pc := 20) dX11_wrong_20 fRX11_7 rfl k2 ?_
        refine e_iload_n (pc := 23) (i := 1) dX11_wrong_23 rfl rfl ?_
        have k5 := hv.1
        replace hv := hv.2
        have hi6 := hv.1
        replace hv := hv.2
        refine e_iald (pc := 24) dX11_wrong_24 k5 hi6 ?_
        refine e_icmp_lt (pc := 25) (tgt := 30) dX11_wrong_25 (by decide) (fun h7 => ?_) (fun h7 => ?_)
        · replace hv := hv.1 h7
          refine e_aload_n (pc := 30) (i := 0) dX11_wrong_30 rfl rfl ?_
          refine e_getR (pc := 31) dX11_wrong_31 fRX11_13 rfl k2 ?_
          refine e_bipush (pc := 34) (v := 60) dX11_wrong_34 (by decide) ?_
          refine e_iload_n (pc := 36) (i := 1) dX11_wrong_36 rfl rfl ?_
          refine e_imul (pc := 37) dX11_wrong_37 ?_
          refine e_iload_n (pc := 38) (i := 2) dX11_wrong_38 rfl rfl ?_
          refine e_iadd (pc := 39) dX11_wrong_39 ?_
          have k8 := hv.1
          replace hv := hv.2
          have hi9 := hv.1
          replace hv := hv.2
          refine e_zald (pc := 40) dX11_wrong_40 k8 hi9 ?_
          refine e_if_eq (pc := 41) (tgt := 48) dX11_wrong_41 (by decide) (fun h10 => ?_) (fun h10 => ?_)
          · replace hv := hv.1 h10
            refine e_iconst (pc := 48) (v := 0) dX11_wrong_48 (by decide) ?_
            exact e_ireturn (pc := 49) dX11_wrong_49 rfl ⟨_, rfl, hv⟩
          · replace hv := hv.2 h10
            refine e_iconst (pc := 44) (v := 3) dX11_wrong_44 (by decide) ?_
            refine e_goto (pc := 45) (tgt := 49) dX11_wrong_45 (by decide) ?_
            exact e_ireturn (pc := 49) dX11_wrong_49 rfl ⟨_, rfl, hv⟩
        · replace hv := hv.2 h7
          refine e_iconst (pc := 28) (v := 2) dX11_wrong_28 (by decide) ?_
          exact e_ireturn (pc := 29) dX11_wrong_29 rfl ⟨_, rfl, hv⟩
    · replace hv := hv.2 h3
      refine e_iconst (pc := 12) (v := 1) dX11_wrong_12 (by decide) ?_
      exact e_ireturn (pc := 13) dX11_wrong_13 rfl ⟨_, rfl, hv⟩
set_option maxRecDepth 100000 in
set_option maxHeartbeats 4000000 in
theorem oX11_view (X : Cx) (A : Wd → Prop) (a0 : Nat) (a1 : Int32) (a2 : Int32) (w : Wd)
    (hv : wK w a0 = 12 ∧ ∀ w2 : Wd, w2 = sI w 11 45 a0 a1 → ∀ w4 : Wd, w4 = sI w2 11 46 a0 a2 → A w4) :
    Ct X bX11_view mX11_view [vR a0, vI a1, vI a2] w (qV A) := by
  refine Ct.of (lv := [(0, vR a0), (1, vI a1), (2, vI a2)]) rfl (Nat.le_of_ble_eq_true rfl) rfl ?_
  refine e_aload_n (pc := 0) (i := 0) dX11_view_0 rfl rfl ?_
  refine e_iload_n (pc := 1) (i := 1) dX11_view_1 rfl rfl ?_
  have k1 := hv.1
  replace hv := hv.2
  obtain ⟨w2, hw2⟩ : ∃ w2 : Wd, w2 = sI w 11 45 a0 a1 := ⟨_, rfl⟩
  replace hv := hv w2 hw2
  refine e_putI (pc := 2) dX11_view_2 fRX11_175 (Or.inl rfl) rfl k1 ?_
  rw [← hw2]
  refine e_aload_n (pc := 5) (i := 0) dX11_view_5 rfl rfl ?_
  refine e_iload_n (pc := 6) (i := 2) dX11_view_6 rfl rfl ?_
  have k3 : wK w2 a0 = 12 := (by rw [hw2]; exact k1)
  obtain ⟨w4, hw4⟩ : ∃ w4 : Wd, w4 = sI w2 11 46 a0 a2 := ⟨_, rfl⟩
  replace hv := hv w4 hw4
  refine e_putI (pc := 7) dX11_view_7 fRX11_178 (Or.inl rfl) rfl k3 ?_
  rw [← hw4]
  exact e_vreturn (pc := 10) dX11_view_10 rfl ⟨rfl, hv⟩
set_option maxRecDepth 100000 in
set_option maxHeartbeats 4000000 in
theorem oX11_now (X : Cx) (A : Wd → Prop) (a0 : Nat) (w : Wd)
    (hv : wK w a0 = 12 ∧ Ct X bX11_view mX11_view [vR a0, vI (wI w 11 39 a0), vI (wI w 11 39 a0)] w (qV fun w2 => A w2)) :
    Ct X bX11_now mX11_now [vR a0] w (qV A) := by
  refine Ct.of (lv := [(0, vR a0)]) rfl (Nat.le_of_ble_eq_true rfl) rfl ?_
  refine e_aload_n (pc := 0) (i := 0) dX11_now_0 rfl rfl ?_
  refine e_aload_n (pc := 1) (i := 0) dX11_now_1 rfl rfl ?_
  have k1 := hv.1
  replace hv := hv.2
  refine e_getI (pc := 2) dX11_now_2 fRX11_166 rfl k1 ?_
  refine e_aload_n (pc := 5) (i := 0) dX11_now_5 rfl rfl ?_
  refine e_getI (pc := 6) dX11_now_6 fRX11_166 rfl k1 ?_
  refine e_callVv (pc := 9) (ci := 11) (st := []) (rc' := 0) (rs' := 0) (B' := bX11_view) [vI (wI w 11 39 a0), vI (wI w 11 39 a0)] dX11_now_9 vRX11_181 kX11_view (by decide) rfl k1 rfl rfl (Nat.le_of_ble_eq_true rfl) ⟨Nat.le_of_ble_eq_true rfl, Nat.le_of_ble_eq_true rfl⟩ rfl rfl hv (fun w2 hv => ?_)
  exact e_vreturn (pc := 12) dX11_now_12 rfl ⟨rfl, hv⟩
set_option maxRecDepth 100000 in
set_option maxHeartbeats 4000000 in
theorem oX11_counts (X : Cx) (A : Int32 → Wd → Prop) (a0 : Nat) (a1 : Int32) (a2 : Int32) (w : Wd)
    (hv : ((a2 = (-1)) → A 0 w) ∧ ((¬ a2 = (-1)) → wK w a0 = 12 ∧ (((wI w 11 45 a0) < a1) → A 0 w) ∧ ((¬ (wI w 11 45 a0) < a1) → (((wI w 11 46 a0) < a2) → A 0 w) ∧ ((¬ (wI w 11 46 a0) < a2) → A 1 w)))) :
    Ct X bX11_counts mX11_counts [vR a0, vI a1, vI a2] w (qI A) := by
  refine Ct.of (lv := [(0, vR a0), (1, vI a1), (2, vI a2)]) rfl (Nat.le_of_ble_eq_true rfl) rfl ?_
  refine e_iload_n (pc := 0) (i := 2) dX11_counts_0 rfl rfl ?_
  refine e_iconst (pc := 1) (v := (-1)) dX11_counts_1 (by decide) ?_
  refine e_icmp_eq (pc := 2) (tgt := 25) dX11_counts_2 (by decide) (fun h1 => ?_) (fun h1 => ?_)
  · replace hv := hv.1 h1
    refine e_iconst (pc := 25) (v := 0) dX11_counts_25 (by decide) ?_
    exact e_zreturn (pc := 26) dX11_counts_26 rfl (Or.inl rfl) ⟨_, rfl, hv⟩
  · replace hv := hv.2 h1
    refine e_iload_n (pc := 5) (i := 1) dX11_counts_5 rfl rfl ?_
    refine e_aload_n (pc := 6) (i := 0) dX11_counts_6 rfl rfl ?_
    have k2 := hv.1
    replace hv := hv.2
    refine e_getI (pc := 7) dX11_counts_7 fRX11_175 rfl k2 ?_
    refine e_icmp_gt (pc := 10) (tgt := 25) dX11_counts_10 (by decide) (fun h3 => ?_) (fun h3 => ?_)
    · replace hv := hv.1 h3
      refine e_iconst (pc := 25) (v := 0) dX11_counts_25 (by decide) ?_
      exact e_zreturn (pc := 26) dX11_counts_26 rfl (Or.inl rfl) ⟨_, rfl, hv⟩
    · replace hv := hv.2 h3
      refine e_iload_n (pc := 13) (i := 2) dX11_counts_13 rfl rfl ?_
      refine e_aload_n (pc := 14) (i := 0) dX11_counts_14 rfl rfl ?_
      refine e_getI (pc := 15) dX11_counts_15 fRX11_178 rfl k2 ?_
      refine e_icmp_gt (pc := 18) (tgt := 25) dX11_counts_18 (by decide) (fun h4 => ?_) (fun h4 => ?_)
      · replace hv := hv.1 h4
        refine e_iconst (pc := 25) (v := 0) dX11_counts_25 (by decide) ?_
        exact e_zreturn (pc := 26) dX11_counts_26 rfl (Or.inl rfl) ⟨_, rfl, hv⟩
      · replace hv := hv.2 h4
        refine e_iconst (pc := 21) (v := 1) dX11_counts_21 (by decide) ?_
        refine e_goto (pc := 22) (tgt := 26) dX11_counts_22 (by decide) ?_
        exact e_zreturn (pc := 26) dX11_counts_26 rfl (Or.inr rfl) ⟨_, rfl, hv⟩
set_option maxRecDepth 100000 in
set_option maxHeartbeats 4000000 in
theorem oX11_lives (X : Cx) (A : Int32 → Wd → Prop) (a0 : Nat) (a1 : Int32) (w : Wd)
    (hv : wK w a0 = 12 ∧ wK w (wR w 11 5 a0) = 13 ∧ vp_in a1 (wL w (wR w 11 5 a0)) ∧ wK w (wR w 11 13 a0) = 13 ∧ vp_in (xI w (wR w 11 5 a0) a1.toNatClampNeg) (wL w (wR w 11 13 a0)) ∧ wK w (wR w 11 14 a0) = 13 ∧ vp_in (xI w (wR w 11 5 a0) a1.toNatClampNeg) (wL w (wR w 11 14 a0)) ∧ Ct X bX11_counts mX11_counts [vR a0, vI (xI w (wR w 11 13 a0) (xI w (wR w 11 5 a0) a1.toNatClampNeg).toNatClampNeg), vI (xI w (wR w 11 14 a0) (xI w (wR w 11 5 a0) a1.toNatClampNeg).toNatClampNeg)] w (qI fun x9 w8 => ((x9 = 0) → A 0 w8) ∧ ((¬ x9 = 0) → wK w8 a0 = 12 ∧ wK w8 (wR w8 11 15 a0) = 13 ∧ vp_in (xI w (wR w 11 5 a0) a1.toNatClampNeg) (wL w8 (wR w8 11 15 a0)) ∧ wK w8 (wR w8 11 16 a0) = 13 ∧ vp_in (xI w (wR w 11 5 a0) a1.toNatClampNeg) (wL w8 (wR w8 11 16 a0)) ∧ Ct X bX11_counts mX11_counts [vR a0, vI (xI w8 (wR w8 11 15 a0) (xI w (wR w 11 5 a0) a1.toNatClampNeg).toNatClampNeg), vI (xI w8 (wR w8 11 16 a0) (xI w (wR w 11 5 a0) a1.toNatClampNeg).toNatClampNeg)] w8 (qI fun x17 w16 => ((¬ x17 = 0) → A 0 w16) ∧ ((x17 = 0) → A 1 w16))))) :
    Ct X bX11_lives mX11_lives [vR a0, vI a1] w (qI A) := by
  refine Ct.of (lv := [(0, vR a0), (1, vI a1)]) rfl (Nat.le_of_ble_eq_true rfl) rfl ?_
  refine e_aload_n (pc := 0) (i := 0) dX11_lives_0 rfl rfl ?_
  have k1 := hv.1
  replace hv := hv.2
  refine e_getR (pc := 1) dX11_lives_1 fRX11_23 rfl k1 ?_
  refine e_iload_n (pc := 4) (i := 1) dX11_lives_4 rfl rfl ?_
  have k2 := hv.1
  replace hv := hv.2
  have hi3 := hv.1
  replace hv := hv.2
  refine e_iald (pc := 5) dX11_lives_5 k2 hi3 ?_
  refine e_istore_n (pc := 6) (i := 2) (lv' := [(0, vR a0), (1, vI a1), (2, vI (xI w (wR w 11 5 a0) a1.toNatClampNeg))]) dX11_lives_6 rfl (by decide) rfl ?_
  refine e_aload_n (pc := 7) (i := 0) dX11_lives_7 rfl rfl ?_
  refine e_aload_n (pc := 8) (i := 0) dX11_lives_8 rfl rfl ?_
  refine e_getR (pc := 9) dX11_lives_9 fRX11_48 rfl k1 ?_
  refine e_iload_n (pc := 12) (i := 2) dX11_lives_12 rfl rfl ?_
  have k4 := hv.1
  replace hv := hv.2
  have hi5 := hv.1
  replace hv := hv.2
  refine e_iald (pc := 13) dX11_lives_13 k4 hi5 ?_
  refine e_aload_n (pc := 14) (i := 0) dX11_lives_14 rfl rfl ?_
  refine e_getR (pc := 15) dX11_lives_15 fRX11_51 rfl k1 ?_
  refine e_iload_n (pc := 18) (i := 2) dX11_lives_18 rfl rfl ?_
  have k6 := hv.1
  replace hv := hv.2
  have hi7 := hv.1
  replace hv := hv.2
  refine e_iald (pc := 19) dX11_lives_19 k6 hi7 ?_
  refine e_callVi (pc := 20) (ci := 11) (st := []) (rc' := 0) (rs' := 0) (B' := bX11_counts) [vI (xI w (wR w 11 13 a0) (xI w (wR w 11 5 a0) a1.toNatClampNeg).toNatClampNeg), vI (xI w (wR w 11 14 a0) (xI w (wR w 11 5 a0) a1.toNatClampNeg).toNatClampNeg)] dX11_lives_20 vRX11_185 kX11_counts (by decide) rfl k1 rfl rfl (Nat.le_of_ble_eq_true rfl) ⟨Nat.le_of_ble_eq_true rfl, Nat.le_of_ble_eq_true rfl⟩ rfl rfl hv (fun x9 w8 hv => ?_)
  refine e_if_eq (pc := 23) (tgt := 49) dX11_lives_23 (by decide) (fun h10 => ?_) (fun h10 => ?_)
  · replace hv := hv.1 h10
    refine e_iconst (pc := 49) (v := 0) dX11_lives_49 (by decide) ?_
    exact e_zreturn (pc := 50) dX11_lives_50 rfl (Or.inl rfl) ⟨_, rfl, hv⟩
  · replace hv := hv.2 h10
    refine e_aload_n (pc := 26) (i := 0) dX11_lives_26 rfl rfl ?_
    refine e_aload_n (pc := 27) (i := 0) dX11_lives_27 rfl rfl ?_
    have k11 := hv.1
    replace hv := hv.2
    refine e_getR (pc := 28) dX11_lives_28 fRX11_54 rfl k11 ?_
    refine e_iload_n (pc := 31) (i := 2) dX11_lives_31 rfl rfl ?_
    have k12 := hv.1
    replace hv := hv.2
    have hi13 := hv.1
    replace hv := hv.2
    refine e_iald (pc := 32) dX11_lives_32 k12 hi13 ?_
    refine e_aload_n (pc := 33) (i := 0) dX11_lives_33 rfl rfl ?_
    refine e_getR (pc := 34) dX11_lives_34 fRX11_57 rfl k11 ?_
    refine e_iload_n (pc := 37) (i := 2) dX11_lives_37 rfl rfl ?_
    have k14 := hv.1
    replace hv := hv.2
    have hi15 := hv.1
    replace hv := hv.2
    refine e_iald (pc := 38) dX11_lives_38 k14 hi15 ?_
    refine e_callVi (pc := 39) (ci := 11) (st := []) (rc' := 0) (rs' := 0) (B' := bX11_counts) [vI (xI w8 (wR w8 11 15 a0) (xI w (wR w 11 5 a0) a1.toNatClampNeg).toNatClampNeg), vI (xI w8 (wR w8 11 16 a0) (xI w (wR w 11 5 a0) a1.toNatClampNeg).toNatClampNeg)] dX11_lives_39 vRX11_185 kX11_counts (by decide) rfl k11 rfl rfl (Nat.le_of_ble_eq_true rfl) ⟨Nat.le_of_ble_eq_true rfl, Nat.le_of_ble_eq_true rfl⟩ rfl rfl hv (fun x17 w16 hv => ?_)
    refine e_if_ne (pc := 42) (tgt := 49) dX11_lives_42 (by decide) (fun h18 => ?_) (fun h18 => ?_)
    · replace hv := hv.1 h18
      refine e_iconst (pc := 49) (v := 0) dX11_lives_49 (by decide) ?_
      exact e_zreturn (pc := 50) dX11_lives_50 rfl (Or.inl rfl) ⟨_, rfl, hv⟩
    · replace hv := hv.2 h18
      refine e_iconst (pc := 45) (v := 1) dX11_lives_45 (by decide) ?_
      refine e_goto (pc := 46) (tgt := 50) dX11_lives_46 (by decide) ?_
      exact e_zreturn (pc := 50) dX11_lives_50 rfl (Or.inr rfl) ⟨_, rfl, hv⟩
abbrev jX11_isOff_2 (X : Cx) (A : Int32 → Wd → Prop) (l0 : Nat) (l2 : Int32) (l3 : Int32) (w : Wd) : Prop := EJ X mX11_isOff (vw X bX11_isOff (qI A)) 0 0 2 [(0, vR l0), (2, vI l2), (3, vI l3)] [] w
set_option maxRecDepth 100000 in
set_option maxHeartbeats 4000000 in
theorem tX11_isOff_2 (X : Cx) (A : Int32 → Wd → Prop) (l0 : Nat) (l2 : Int32) (l3 : Int32) (w : Wd)
    (hv : ((l3 = 0) → A 0 w) ∧ ((¬ l3 = 0) → wK w l0 = 12 ∧ wK w (wR w 11 28 l0) = 13 ∧ vp_in ((60 * l3) + l2) (wL w (wR w 11 28 l0)) ∧ wK w (wR w 11 29 l0) = 13 ∧ vp_in ((60 * l3) + l2) (wL w (wR w 11 29 l0)) ∧ Ct X bX11_counts mX11_counts [vR l0, vI (xI w (wR w 11 28 l0) ((60 * l3) + l2).toNatClampNeg), vI (xI w (wR w 11 29 l0) ((60 * l3) + l2).toNatClampNeg)] w (qI fun x8 w7 => ((x8 = 0) → wK w7 l0 = 12 ∧ wK w7 (wR w7 11 6 l0) = 13 ∧ vp_in l3 (wL w7 (wR w7 11 6 l0)) ∧ jX11_isOff_2 X A l0 l2 (xI w7 (wR w7 11 6 l0) l3.toNatClampNeg) w7) ∧ ((¬ x8 = 0) → A 1 w7)))) :
    jX11_isOff_2 X A l0 l2 l3 w := by
  refine e_iload_n (pc := 2) (i := 3) dX11_isOff_2 rfl rfl ?_
  refine e_if_eq (pc := 3) (tgt := 47) dX11_isOff_3 (by decide) (fun h1 => ?_) (fun h1 => ?_)
  · replace hv := hv.1 h1
    refine e_iconst (pc := 47) (v := 0) dX11_isOff_47 (by decide) ?_
    exact e_zreturn (pc := 48) dX11_isOff_48 rfl (Or.inl rfl) ⟨_, rfl, hv⟩
  · replace hv := hv.2 h1
    refine e_aload_n (pc := 6) (i := 0) dX11_isOff_6 rfl rfl ?_
    refine e_aload_n (pc := 7) (i := 0) dX11_isOff_7 rfl rfl ?_
    have k2 := hv.1
    replace hv := hv.2
    refine e_getR (pc := 8) dX11_isOff_8 fRX11_93 rfl k2 ?_
    refine e_bipush (pc := 11) (v := 60) dX11_isOff_11 (by decide) ?_
    refine e_iload_n (pc := 13) (i := 3) dX11_isOff_13 rfl rfl ?_
    refine e_imul (pc := 14) dX11_isOff_14 ?_
    refine e_iload_n (pc := 15) (i := 2) dX11_isOff_15 rfl rfl ?_
    refine e_iadd (pc := 16) dX11_isOff_16 ?_
    have k3 := hv.1
    replace hv := hv.2
    have hi4 := hv.1
    replace hv := hv.2
    refine e_iald (pc := 17) dX11_isOff_17 k3 hi4 ?_
    refine e_aload_n (pc := 18) (i := 0) dX11_isOff_18 rfl rfl ?_
    refine e_getR (pc := 19) dX11_isOff_19 fRX11_96 rfl k2 ?_
    refine e_bipush (pc := 22) (v := 60) dX11_isOff_22 (by decide) ?_
    refine e_iload_n (pc := 24) (i := 3) dX11_isOff_24 rfl rfl ?_
    refine e_imul (pc := 25) dX11_isOff_25 ?_
    refine e_iload_n (pc := 26) (i := 2) dX11_isOff_26 rfl rfl ?_
    refine e_iadd (pc := 27) dX11_isOff_27 ?_
    have k5 := hv.1
    replace hv := hv.2
    have hi6 := hv.1
    replace hv := hv.2
    refine e_iald (pc := 28) dX11_isOff_28 k5 hi6 ?_
    refine e_callVi (pc := 29) (ci := 11) (st := []) (rc' := 0) (rs' := 0) (B' := bX11_counts) [vI (xI w (wR w 11 28 l0) ((60 * l3) + l2).toNatClampNeg), vI (xI w (wR w 11 29 l0) ((60 * l3) + l2).toNatClampNeg)] dX11_isOff_29 vRX11_185 kX11_counts (by decide) rfl k2 rfl rfl (Nat.le_of_ble_eq_true rfl) ⟨Nat.le_of_ble_eq_true rfl, Nat.le_of_ble_eq_true rfl⟩ rfl rfl hv (fun x8 w7 hv => ?_)
    refine e_if_eq (pc := 32) (tgt := 37) dX11_isOff_32 (by decide) (fun h9 => ?_) (fun h9 => ?_)
    · replace hv := hv.1 h9
      refine e_aload_n (pc := 37) (i := 0) dX11_isOff_37 rfl rfl ?_
      have k10 := hv.1
      replace hv := hv.2
      refine e_getR (pc := 38) dX11_isOff_38 fRX11_26 rfl k10 ?_
      refine e_iload_n (pc := 41) (i := 3) dX11_isOff_41 rfl rfl ?_
      have k11 := hv.1
      replace hv := hv.2
      have hi12 := hv.1
      replace hv := hv.2
      refine e_iald (pc := 42) dX11_isOff_42 k11 hi12 ?_
      refine e_istore_n (pc := 43) (i := 3) (lv' := [(0, vR l0), (2, vI l2), (3, vI (xI w7 (wR w7 11 6 l0) l3.toNatClampNeg))]) dX11_isOff_43 rfl (by decide) rfl ?_
      refine e_goto (pc := 44) (tgt := 2) dX11_isOff_44 (by decide) ?_
      exact hv
    · replace hv := hv.2 h9
      refine e_iconst (pc := 35) (v := 1) dX11_isOff_35 (by decide) ?_
      exact e_zreturn (pc := 36) dX11_isOff_36 rfl (Or.inr rfl) ⟨_, rfl, hv⟩
set_option maxRecDepth 100000 in
set_option maxHeartbeats 4000000 in
theorem oX11_isOff (X : Cx) (A : Int32 → Wd → Prop) (a0 : Nat) (a1 : Int32) (a2 : Int32) (w : Wd)
    (hv : jX11_isOff_2 X A a0 a2 a1 w) :
    Ct X bX11_isOff mX11_isOff [vR a0, vI a1, vI a2] w (qI A) := by
  refine Ct.of (lv := [(0, vR a0), (1, vI a1), (2, vI a2)]) rfl (Nat.le_of_ble_eq_true rfl) rfl ?_
  refine e_iload_n (pc := 0) (i := 1) dX11_isOff_0 rfl rfl ?_
  refine e_istore_n (pc := 1) (i := 3) (lv' := [(0, vR a0), (1, vI a1), (2, vI a2), (3, vI a1)]) dX11_isOff_1 rfl (by decide) rfl ?_
  exact EJ.drop [0, 2, 3] rfl hv
set_option maxRecDepth 100000 in
set_option maxHeartbeats 4000000 in
theorem oX11_hasLeafOn (X : Cx) (A : Int32 → Wd → Prop) (n : Nat) (a0 : Nat) (a1 : Int32) (a2 : Int32) (w : Wd)
    (hv : wK w a0 = 12 ∧ wK w (wR w 11 9 a0) = 13 ∧ vp_in a1 (wL w (wR w 11 9 a0)) ∧ ((¬ (xI w (wR w 11 9 a0) a1.toNatClampNeg) = 0) → vp_in a1 (wL w (wR w 11 9 a0)) ∧ Ct X (n + 2, 0, 0) mX11_hasLeafOn [vR a0, vI (xI w (wR w 11 9 a0) a1.toNatClampNeg), vI a2] w (qI fun x7 w6 => ((¬ x7 = 0) → A 1 w6) ∧ ((x7 = 0) → wK w6 a0 = 12 ∧ wK w6 (wR w6 11 9 a0) = 13 ∧ vp_in a1 (wL w6 (wR w6 11 9 a0)) ∧ Ct X (n + 2, 0, 0) mX11_hasLeafOn [vR a0, vI ((xI w6 (wR w6 11 9 a0) a1.toNatClampNeg) + 1), vI a2] w6 (qI fun x13 w12 => ((x13 = 0) → A 0 w12) ∧ ((¬ x13 = 0) → A 1 w12))))) ∧ (((xI w (wR w 11 9 a0) a1.toNatClampNeg) = 0) → Ct X bX11_isOff mX11_isOff [vR a0, vI a1, vI a2] w (qI fun x16 w15 => ((¬ x16 = 0) → A 0 w15) ∧ ((x16 = 0) → A 1 w15)))) :
    Ct X (n + 3, 0, 0) mX11_hasLeafOn [vR a0, vI a1, vI a2] w (qI A) := by
  refine Ct.of (lv := [(0, vR a0), (1, vI a1), (2, vI a2)]) rfl (Nat.le_of_ble_eq_true rfl) rfl ?_
  refine e_aload_n (pc := 0) (i := 0) dX11_hasLeafOn_0 rfl rfl ?_
  have k1 := hv.1
  replace hv := hv.2
  refine e_getR (pc := 1) dX11_hasLeafOn_1 fRX11_36 rfl k1 ?_
  refine e_iload_n (pc := 4) (i := 1) dX11_hasLeafOn_4 rfl rfl ?_
  have k2 := hv.1
  replace hv := hv.2
  have hi3 := hv.1
  replace hv := hv.2
  refine e_iald (pc := 5) dX11_hasLeafOn_5 k2 hi3 ?_
  refine e_if_ne (pc := 6) (tgt := 24) dX11_hasLeafOn_6 (by decide) (fun h4 => ?_) (fun h4 => ?_)
  · replace hv := hv.1 h4
    refine e_aload_n (pc := 24) (i := 0) dX11_hasLeafOn_24 rfl rfl ?_
    refine e_aload_n (pc := 25) (i := 0) dX11_hasLeafOn_25 rfl rfl ?_
    refine e_getR (pc := 26) dX11_hasLeafOn_26 fRX11_36 rfl k1 ?_
    refine e_iload_n (pc := 29) (i := 1) dX11_hasLeafOn_29 rfl rfl ?_
    have hi5 := hv.1
    replace hv := hv.2
    refine e_iald (pc := 30) dX11_hasLeafOn_30 k2 hi5 ?_
    refine e_iload_n (pc := 31) (i := 2) dX11_hasLeafOn_31 rfl rfl ?_
    refine e_callVi (pc := 32) (ci := 11) (st := []) (rc' := 0) (rs' := 0) (B' := (n + 2, 0, 0)) [vI (xI w (wR w 11 9 a0) a1.toNatClampNeg), vI a2] dX11_hasLeafOn_32 vRX11_192 kX11_hasLeafOn (by decide) rfl k1 rfl rfl (Nat.le_of_ble_eq_true rfl) ⟨(by show (n + 2) + 1 ≤ n + 3; omega), (by show 8 + (3 + 11) + 60 * (n + 2) ≤ 60 * (n + 3); omega)⟩ rfl rfl hv (fun x7 w6 hv => ?_)
    refine e_if_ne (pc := 35) (tgt := 54) dX11_hasLeafOn_35 (by decide) (fun h8 => ?_) (fun h8 => ?_)
    · replace hv := hv.1 h8
      refine e_iconst (pc := 54) (v := 1) dX11_hasLeafOn_54 (by decide) ?_
      refine e_goto (pc := 55) (tgt := 59) dX11_hasLeafOn_55 (by decide) ?_
      exact e_zreturn (pc := 59) dX11_hasLeafOn_59 rfl (Or.inr rfl) ⟨_, rfl, hv⟩
    · replace hv := hv.2 h8
      refine e_aload_n (pc := 38) (i := 0) dX11_hasLeafOn_38 rfl rfl ?_
      refine e_aload_n (pc := 39) (i := 0) dX11_hasLeafOn_39 rfl rfl ?_
      have k9 := hv.1
      replace hv := hv.2
      refine e_getR (pc := 40) dX11_hasLeafOn_40 fRX11_36 rfl k9 ?_
      refine e_iload_n (pc := 43) (i := 1) dX11_hasLeafOn_43 rfl rfl ?_
      have k10 := hv.1
      replace hv := hv.2
      have hi11 := hv.1
      replace hv := hv.2
      refine e_iald (pc := 44) dX11_hasLeafOn_44 k10 hi11 ?_
      refine e_iconst (pc := 45) (v := 1) dX11_hasLeafOn_45 (by decide) ?_
      refine e_iadd (pc := 46) dX11_hasLeafOn_46 ?_
      refine e_iload_n (pc := 47) (i := 2) dX11_hasLeafOn_47 rfl rfl ?_
      refine e_callVi (pc := 48) (ci := 11) (st := []) (rc' := 0) (rs' := 0) (B' := (n + 2, 0, 0)) [vI ((xI w6 (wR w6 11 9 a0) a1.toNatClampNeg) + 1), vI a2] dX11_hasLeafOn_48 vRX11_192 kX11_hasLeafOn (by decide) rfl k9 rfl rfl (Nat.le_of_ble_eq_true rfl) ⟨(by show (n + 2) + 1 ≤ n + 3; omega), (by show 8 + (3 + 11) + 60 * (n + 2) ≤ 60 * (n + 3); omega)⟩ rfl rfl hv (fun x13 w12 hv => ?_)
      refine e_if_eq (pc := 51) (tgt := 58) dX11_hasLeafOn_51 (by decide) (fun h14 => ?_) (fun h14 => ?_)
      · replace hv := hv.1 h14
        refine e_iconst (pc := 58) (v := 0) dX11_hasLeafOn_58 (by decide) ?_
        exact e_zreturn (pc := 59) dX11_hasLeafOn_59 rfl (Or.inl rfl) ⟨_, rfl, hv⟩
      · replace hv := hv.2 h14
        refine e_iconst (pc := 54) (v := 1) dX11_hasLeafOn_54 (by decide) ?_
        refine e_goto (pc := 55) (tgt := 59) dX11_hasLeafOn_55 (by decide) ?_
        exact e_zreturn (pc := 59) dX11_hasLeafOn_59 rfl (Or.inr rfl) ⟨_, rfl, hv⟩
  · replace hv := hv.2 h4
    refine e_aload_n (pc := 9) (i := 0) dX11_hasLeafOn_9 rfl rfl ?_
    refine e_iload_n (pc := 10) (i := 1) dX11_hasLeafOn_10 rfl rfl ?_
    refine e_iload_n (pc := 11) (i := 2) dX11_hasLeafOn_11 rfl rfl ?_
    refine e_callVi (pc := 12) (ci := 11) (st := []) (rc' := 0) (rs' := 0) (B' := bX11_isOff) [vI a1, vI a2] dX11_hasLeafOn_12 vRX11_189 kX11_isOff (by decide) rfl k1 rfl rfl (Nat.le_of_ble_eq_true rfl) ⟨(by show 2 + 1 ≤ n + 3; omega), (by show 8 + (4 + 11) + 60 * 2 ≤ 60 * (n + 3); omega)⟩ rfl rfl hv (fun x16 w15 hv => ?_)
    refine e_if_ne (pc := 15) (tgt := 22) dX11_hasLeafOn_15 (by decide) (fun h17 => ?_) (fun h17 => ?_)
    · replace hv := hv.1 h17
      refine e_iconst (pc := 22) (v := 0) dX11_hasLeafOn_22 (by decide) ?_
      exact e_zreturn (pc := 23) dX11_hasLeafOn_23 rfl (Or.inl rfl) ⟨_, rfl, hv⟩
    · replace hv := hv.2 h17
      refine e_iconst (pc := 18) (v := 1) dX11_hasLeafOn_18 (by decide) ?_
      refine e_goto (pc := 19) (tgt := 23) dX11_hasLeafOn_19 (by decide) ?_
      exact e_zreturn (pc := 23) dX11_hasLeafOn_23 rfl (Or.inr rfl) ⟨_, rfl, hv⟩
set_option maxRecDepth 100000 in
set_option maxHeartbeats 4000000 in
theorem oX11_lies (X : Cx) (A : Int32 → Wd → Prop) (a0 : Nat) (a1 : Int32) (a2 : Int32) (w : Wd)
    (hv : wK w a0 = 12 ∧ wK w (wR w 11 5 a0) = 13 ∧ vp_in a1 (wL w (wR w 11 5 a0)) ∧ wK w (wR w 11 4 a0) = 13 ∧ vp_in a1 (wL w (wR w 11 4 a0)) ∧ wK w (wR w 11 10 a0) = 14 ∧ vp_in (xI w (wR w 11 5 a0) a1.toNatClampNeg) (wL w (wR w 11 10 a0)) ∧ (((lg_cmp (((xJ w (wR w 11 10 a0) (xI w (wR w 11 5 a0) a1.toNatClampNeg).toNatClampNeg) >>> (a2.toInt64 &&& 63)) &&& 1) 0) = 0) → A 0 w) ∧ ((¬ (lg_cmp (((xJ w (wR w 11 10 a0) (xI w (wR w 11 5 a0) a1.toNatClampNeg).toNatClampNeg) >>> (a2.toInt64 &&& 63)) &&& 1) 0) = 0) → wK w (wR w 11 1 a0) = 15 ∧ vp_in ((60 * (xI w (wR w 11 4 a0) a1.toNatClampNeg)) + a2) (wL w (wR w 11 1 a0)) ∧ (((xI w (wR w 11 1 a0) ((60 * (xI w (wR w 11 4 a0) a1.toNatClampNeg)) + a2).toNatClampNeg) = 0) → Ct X bX11_lives mX11_lives [vR a0, vI a1] w (qI fun x13 w12 => ((x13 = 0) → A 0 w12) ∧ ((¬ x13 = 0) → wK w12 a0 = 12 ∧ Ct X (303, 0, 0) mX11_hasLeafOn [vR a0, vI a1, vI a2] w12 (qI fun x16 w15 => ((x16 = 0) → A 0 w15) ∧ ((¬ x16 = 0) → A 1 w15))))) ∧ ((¬ (xI w (wR w 11 1 a0) ((60 * (xI w (wR w 11 4 a0) a1.toNatClampNeg)) + a2).toNatClampNeg) = 0) → A 0 w))) :
    Ct X bX11_lies mX11_lies [vR a0, vI a1, vI a2] w (qI A) := by
  refine Ct.of (lv := [(0, vR a0), (1, vI a1), (2, vI a2)]) rfl (Nat.le_of_ble_eq_true rfl) rfl ?_
  refine e_aload_n (pc := 0) (i := 0) dX11_lies_0 rfl rfl ?_
  have k1 := hv.1
  replace hv := hv.2
  refine e_getR (pc := 1) dX11_lies_1 fRX11_23 rfl k1 ?_
  refine e_iload_n (pc := 4) (i := 1) dX11_lies_4 rfl rfl ?_
  have k2 := hv.1
  replace hv := hv.2
  have hi3 := hv.1
  replace hv := hv.2
  refine e_iald (pc := 5) dX11_lies_5 k2 hi3 ?_
  refine e_istore_n (pc := 6) (i := 3) (lv' := [(0, vR a0), (1, vI a1), (2, vI a2), (3, vI (xI w (wR w 11 5 a0) a1.toNatClampNeg))]) dX11_lies_6 rfl (by decide) rfl ?_
  refine e_aload_n (pc := 7) (i := 0) dX11_lies_7 rfl rfl ?_
  refine e_getR (pc := 8) dX11_lies_8 fRX11_20 rfl k1 ?_
  refine e_iload_n (pc := 11) (i := 1) dX11_lies_11 rfl rfl ?_
  have k4 := hv.1
  replace hv := hv.2
  have hi5 := hv.1
  replace hv := hv.2
  refine e_iald (pc := 12) dX11_lies_12 k4 hi5 ?_
  refine e_istore (pc := 13) (i := 4) (lv' := [(0, vR a0), (1, vI a1), (2, vI a2), (3, vI (xI w (wR w 11 5 a0) a1.toNatClampNeg)), (4, vI (xI w (wR w 11 4 a0) a1.toNatClampNeg))]) dX11_lies_13 (by decide) rfl ?_
  refine e_aload_n (pc := 15) (i := 0) dX11_lies_15 rfl rfl ?_
  refine e_getR (pc := 16) dX11_lies_16 fRX11_39 rfl k1 ?_
  refine e_iload_n (pc := 19) (i := 3) dX11_lies_19 rfl rfl ?_
  have k6 := hv.1
  replace hv := hv.2
  have hi7 := hv.1
  replace hv := hv.2
  refine e_lald (pc := 20) dX11_lies_20 k6 hi7 ?_
  refine e_iload_n (pc := 21) (i := 2) dX11_lies_21 rfl rfl ?_
  refine e_lshr (pc := 22) dX11_lies_22 ?_
  refine e_lconst (pc := 23) (v := 1) dX11_lies_23 (by decide) ?_
  refine e_land (pc := 24) dX11_lies_24 ?_
  refine e_lconst (pc := 25) (v := 0) dX11_lies_25 (by decide) ?_
  refine e_lcmp (pc := 26) dX11_lies_26 ?_
  refine e_if_eq (pc := 27) (tgt := 45) dX11_lies_27 (by decide) (fun h8 => ?_) (fun h8 => ?_)
  · replace hv := hv.1 h8
    refine e_iconst (pc := 45) (v := 0) dX11_lies_45 (by decide) ?_
    exact e_zreturn (pc := 46) dX11_lies_46 rfl (Or.inl rfl) ⟨_, rfl, hv⟩
  · replace hv := hv.2 h8
    refine e_aload_n (pc := 30) (i := 0) dX11_lies_30 rfl rfl ?_
    refine e_getR (pc := 31) dX11_lies_31 fRX11_13 rfl k1 ?_
    refine e_bipush (pc := 34) (v := 60) dX11_lies_34 (by decide) ?_
    refine e_iload (pc := 36) (i := 4) dX11_lies_36 rfl ?_
    refine e_imul (pc := 38) dX11_lies_38 ?_
    refine e_iload_n (pc := 39) (i := 2) dX11_lies_39 rfl rfl ?_
    refine e_iadd (pc := 40) dX11_lies_40 ?_
    have k9 := hv.1
    replace hv := hv.2
    have hi10 := hv.1
    replace hv := hv.2
    refine e_zald (pc := 41) dX11_lies_41 k9 hi10 ?_
    refine e_if_eq (pc := 42) (tgt := 47) dX11_lies_42 (by decide) (fun h11 => ?_) (fun h11 => ?_)
    · replace hv := hv.1 h11
      refine e_aload_n (pc := 47) (i := 0) dX11_lies_47 rfl rfl ?_
      refine e_iload_n (pc := 48) (i := 1) dX11_lies_48 rfl rfl ?_
      refine e_callVi (pc := 49) (ci := 11) (st := []) (rc' := 0) (rs' := 0) (B' := bX11_lives) [vI a1] dX11_lies_49 vRX11_195 kX11_lives (by decide) rfl k1 rfl rfl (Nat.le_of_ble_eq_true rfl) ⟨Nat.le_of_ble_eq_true rfl, Nat.le_of_ble_eq_true rfl⟩ rfl rfl hv (fun x13 w12 hv => ?_)
      refine e_if_eq (pc := 52) (tgt := 68) dX11_lies_52 (by decide) (fun h14 => ?_) (fun h14 => ?_)
      · replace hv := hv.1 h14
        refine e_iconst (pc := 68) (v := 0) dX11_lies_68 (by decide) ?_
        exact e_zreturn (pc := 69) dX11_lies_69 rfl (Or.inl rfl) ⟨_, rfl, hv⟩
      · replace hv := hv.2 h14
        refine e_aload_n (pc := 55) (i := 0) dX11_lies_55 rfl rfl ?_
        refine e_iload_n (pc := 56) (i := 1) dX11_lies_56 rfl rfl ?_
        refine e_iload_n (pc := 57) (i := 2) dX11_lies_57 rfl rfl ?_
        have k17 := hv.1
        replace hv := hv.2
        refine e_callVi (pc := 58) (ci := 11) (st := []) (rc' := 0) (rs' := 0) (B' := (303, 0, 0)) [vI a1, vI a2] dX11_lies_58 vRX11_192 kX11_hasLeafOn (by decide) rfl k17 rfl rfl (Nat.le_of_ble_eq_true rfl) ⟨Nat.le_of_ble_eq_true rfl, Nat.le_of_ble_eq_true rfl⟩ rfl rfl hv (fun x16 w15 hv => ?_)
        refine e_if_eq (pc := 61) (tgt := 68) dX11_lies_61 (by decide) (fun h18 => ?_) (fun h18 => ?_)
        · replace hv := hv.1 h18
          refine e_iconst (pc := 68) (v := 0) dX11_lies_68 (by decide) ?_
          exact e_zreturn (pc := 69) dX11_lies_69 rfl (Or.inl rfl) ⟨_, rfl, hv⟩
        · replace hv := hv.2 h18
          refine e_iconst (pc := 64) (v := 1) dX11_lies_64 (by decide) ?_
          refine e_goto (pc := 65) (tgt := 69) dX11_lies_65 (by decide) ?_
          exact e_zreturn (pc := 69) dX11_lies_69 rfl (Or.inr rfl) ⟨_, rfl, hv⟩
    · replace hv := hv.2 h11
      refine e_iconst (pc := 45) (v := 0) dX11_lies_45 (by decide) ?_
      exact e_zreturn (pc := 46) dX11_lies_46 rfl (Or.inl rfl) ⟨_, rfl, hv⟩
set_option maxRecDepth 100000 in
set_option maxHeartbeats 4000000 in
theorem oX11_gather (X : Cx) (A : Wd → Prop) (n : Nat) (a0 : Nat) (a1 : Int32) (w : Wd)
    (hv : wK w a0 = 12 ∧ wK w (wR w 11 9 a0) = 13 ∧ vp_in a1 (wL w (wR w 11 9 a0)) ∧ ((¬ (xI w (wR w 11 9 a0) a1.toNatClampNeg) = 0) → vp_in a1 (wL w (wR w 11 9 a0)) ∧ Ct X (n + 1, 0, 0) mX11_gather [vR a0, vI (xI w (wR w 11 9 a0) a1.toNatClampNeg)] w (qV fun w6 => wK w6 a0 = 12 ∧ wK w6 (wR w6 11 9 a0) = 13 ∧ vp_in a1 (wL w6 (wR w6 11 9 a0)) ∧ Ct X (n + 1, 0, 0) mX11_gather [vR a0, vI ((xI w6 (wR w6 11 9 a0) a1.toNatClampNeg) + 1)] w6 (qV fun w11 => A w11))) ∧ (((xI w (wR w 11 9 a0) a1.toNatClampNeg) = 0) → wK w (wR w 11 47 a0) = 13 ∧ vp_in (wI w 11 48 a0) (wL w (wR w 11 47 a0)) ∧ ∀ w15 : Wd, w15 = yI w (wR w 11 47 a0) (wI w 11 48 a0).toNatClampNeg a1 → ∀ w17 : Wd, w17 = sI w15 11 48 a0 ((wI w15 11 48 a0) + 1) → A w17)) :
    Ct X (n + 2, 0, 0) mX11_gather [vR a0, vI a1] w (qV A) := by
  refine Ct.of (lv := [(0, vR a0), (1, vI a1)]) rfl (Nat.le_of_ble_eq_true rfl) rfl ?_
  refine e_aload_n (pc := 0) (i := 0) dX11_gather_0 rfl rfl ?_
  have k1 := hv.1
  replace hv := hv.2
  refine e_getR (pc := 1) dX11_gather_1 fRX11_36 rfl k1 ?_
  refine e_iload_n (pc := 4) (i := 1) dX11_gather_4 rfl rfl ?_
  have k2 := hv.1
  replace hv := hv.2
  have hi3 := hv.1
  replace hv := hv.2
  refine e_iald (pc := 5) dX11_gather_5 k2 hi3 ?_
  refine e_if_ne (pc := 6) (tgt := 30) dX11_gather_6 (by decide) (fun h4 => ?_) (fun h4 => ?_)
  · replace hv := hv.1 h4
    refine e_aload_n (pc := 30) (i := 0) dX11_gather_30 rfl rfl ?_
    refine e_aload_n (pc := 31) (i := 0) dX11_gather_31 rfl rfl ?_
    refine e_getR (pc := 32) dX11_gather_32 fRX11_36 rfl k1 ?_
    refine e_iload_n (pc := 35) (i := 1) dX11_gather_35 rfl rfl ?_
    have hi5 := hv.1
    replace hv := hv.2
    refine e_iald (pc := 36) dX11_gather_36 k2 hi5 ?_
    refine e_callVv (pc := 37) (ci := 11) (st := []) (rc' := 0) (rs' := 0) (B' := (n + 1, 0, 0)) [vI (xI w (wR w 11 9 a0) a1.toNatClampNeg)] dX11_gather_37 vRX11_202 kX11_gather (by decide) rfl k1 rfl rfl (Nat.le_of_ble_eq_true rfl) ⟨(by show (n + 1) + 1 ≤ n + 2; omega), (by show 8 + (2 + 11) + 60 * (n + 1) ≤ 60 * (n + 2); omega)⟩ rfl rfl hv (fun w6 hv => ?_)
    refine e_aload_n (pc := 40) (i := 0) dX11_gather_40 rfl rfl ?_
    refine e_aload_n (pc := 41) (i := 0) dX11_gather_41 rfl rfl ?_
    have k8 := hv.1
    replace hv := hv.2
    refine e_getR (pc := 42) dX11_gather_42 fRX11_36 rfl k8 ?_
    refine e_iload_n (pc := 45) (i := 1) dX11_gather_45 rfl rfl ?_
    have k9 := hv.1
    replace hv := hv.2
    have hi10 := hv.1
    replace hv := hv.2
    refine e_iald (pc := 46) dX11_gather_46 k9 hi10 ?_
    refine e_iconst (pc := 47) (v := 1) dX11_gather_47 (by decide) ?_
    refine e_iadd (pc := 48) dX11_gather_48 ?_
    refine e_callVv (pc := 49) (ci := 11) (st := []) (rc' := 0) (rs' := 0) (B' := (n + 1, 0, 0)) [vI ((xI w6 (wR w6 11 9 a0) a1.toNatClampNeg) + 1)] dX11_gather_49 vRX11_202 kX11_gather (by decide) rfl k8 rfl rfl (Nat.le_of_ble_eq_true rfl) ⟨(by show (n + 1) + 1 ≤ n + 2; omega), (by show 8 + (2 + 11) + 60 * (n + 1) ≤ 60 * (n + 2); omega)⟩ rfl rfl hv (fun w11 hv => ?_)
    exact e_vreturn (pc := 52) dX11_gather_52 rfl ⟨rfl, hv⟩
  · replace hv := hv.2 h4
    refine e_aload_n (pc := 9) (i := 0) dX11_gather_9 rfl rfl ?_
    refine e_getR (pc := 10) dX11_gather_10 fRX11_124 rfl k1 ?_
    refine e_aload_n (pc := 13) (i := 0) dX11_gather_13 rfl rfl ?_
    refine e_getI (pc := 14) dX11_gather_14 fRX11_199 rfl k1 ?_
    refine e_iload_n (pc := 17) (i := 1) dX11_gather_17 rfl rfl ?_
    have k13 := hv.1
    replace hv := hv.2
    have hi14 := hv.1
    replace hv := hv.2
    obtain ⟨w15, hw15⟩ : ∃ w15 : Wd, w15 = yI w (wR w 11 47 a0) (wI w 11 48 a0).toNatClampNeg a1 := ⟨_, rfl⟩
    replace hv := hv w15 hw15
    refine e_iast (pc := 18) dX11_gather_18 k13 hi14 ?_
    rw [← hw15]
    refine e_aload_n (pc := 19) (i := 0) dX11_gather_19 rfl rfl ?_
    refine e_dup (pc := 20) dX11_gather_20 rfl ?_
    have k16 : wK w15 a0 = 12 := (by rw [hw15]; exact k1)
    refine e_getI (pc := 21) dX11_gather_21 fRX11_199 rfl k16 ?_
    refine e_iconst (pc := 24) (v := 1) dX11_gather_24 (by decide) ?_
    refine e_iadd (pc := 25) dX11_gather_25 ?_
    obtain ⟨w17, hw17⟩ : ∃ w17 : Wd, w17 = sI w15 11 48 a0 ((wI w15 11 48 a0) + 1) := ⟨_, rfl⟩
    replace hv := hv w17 hw17
    refine e_putI (pc := 26) dX11_gather_26 fRX11_199 (Or.inl rfl) rfl k16 ?_
    rw [← hw17]
    exact e_vreturn (pc := 29) dX11_gather_29 rfl ⟨rfl, hv⟩
set_option maxRecDepth 100000 in
set_option maxHeartbeats 4000000 in
theorem oX11_leavesOf (X : Cx) (A : Wd → Prop) (a0 : Nat) (a1 : Int32) (w : Wd)
    (hv : wK w a0 = 12 ∧ ∀ w2 : Wd, w2 = sI w 11 48 a0 0 → Ct X (302, 0, 0) mX11_gather [vR a0, vI a1] w2 (qV fun w3 => A w3)) :
    Ct X bX11_leavesOf mX11_leavesOf [vR a0, vI a1] w (qV A) := by
  refine Ct.of (lv := [(0, vR a0), (1, vI a1)]) rfl (Nat.le_of_ble_eq_true rfl) rfl ?_
  refine e_aload_n (pc := 0) (i := 0) dX11_leavesOf_0 rfl rfl ?_
  refine e_iconst (pc := 1) (v := 0) dX11_leavesOf_1 (by decide) ?_
  have k1 := hv.1
  replace hv := hv.2
  obtain ⟨w2, hw2⟩ : ∃ w2 : Wd, w2 = sI w 11 48 a0 0 := ⟨_, rfl⟩
  replace hv := hv w2 hw2
  refine e_putI (pc := 2) dX11_leavesOf_2 fRX11_199 (Or.inl rfl) rfl k1 ?_
  rw [← hw2]
  refine e_aload_n (pc := 5) (i := 0) dX11_leavesOf_5 rfl rfl ?_
  refine e_iload_n (pc := 6) (i := 1) dX11_leavesOf_6 rfl rfl ?_
  have k5 : wK w2 a0 = 12 := (by rw [hw2]; exact k1)
  refine e_callVv (pc := 7) (ci := 11) (st := []) (rc' := 0) (rs' := 0) (B' := (302, 0, 0)) [vI a1] dX11_leavesOf_7 vRX11_202 kX11_gather (by decide) rfl k5 rfl rfl (Nat.le_of_ble_eq_true rfl) ⟨Nat.le_of_ble_eq_true rfl, Nat.le_of_ble_eq_true rfl⟩ rfl rfl hv (fun w3 hv => ?_)
  exact e_vreturn (pc := 10) dX11_leavesOf_10 rfl ⟨rfl, hv⟩
abbrev jX11_sumBelow_10 (X : Cx) (A : Int64 → Wd → Prop) (l0 : Nat) (l2 : Int64) (l4 : Int32) (w : Wd) : Prop := EJ X mX11_sumBelow (vw X bX11_sumBelow (qJ A)) 0 0 10 [(0, vR l0), (2, vJ l2), (4, vI l4)] [] w
set_option maxRecDepth 100000 in
set_option maxHeartbeats 4000000 in
theorem tX11_sumBelow_10 (X : Cx) (A : Int64 → Wd → Prop) (l0 : Nat) (l2 : Int64) (l4 : Int32) (w : Wd)
    (hv : wK w l0 = 12 ∧ (((wI w 11 48 l0) ≤ l4) → A l2 w) ∧ ((¬ (wI w 11 48 l0) ≤ l4) → wK w (wR w 11 47 l0) = 13 ∧ vp_in l4 (wL w (wR w 11 47 l0)) ∧ wK w (wR w 11 8 l0) = 14 ∧ vp_in (xI w (wR w 11 47 l0) l4.toNatClampNeg) (wL w (wR w 11 8 l0)) ∧ jX11_sumBelow_10 X A l0 (l2 + (xJ w (wR w 11 8 l0) (xI w (wR w 11 47 l0) l4.toNatClampNeg).toNatClampNeg)) (l4 + 1) w)) :
    jX11_sumBelow_10 X A l0 l2 l4 w := by
  refine e_iload (pc := 10) (i := 4) dX11_sumBelow_10 rfl ?_
  refine e_aload_n (pc := 12) (i := 0) dX11_sumBelow_12 rfl rfl ?_
  have k1 := hv.1
  replace hv := hv.2
  refine e_getI (pc := 13) dX11_sumBelow_13 fRX11_199 rfl k1 ?_
  refine e_icmp_ge (pc := 16) (tgt := 40) dX11_sumBelow_16 (by decide) (fun h2 => ?_) (fun h2 => ?_)
  · replace hv := hv.1 h2
    refine e_lload_n (pc := 40) (i := 2) dX11_sumBelow_40 rfl rfl ?_
    exact e_lreturn (pc := 41) dX11_sumBelow_41 rfl ⟨_, rfl, hv⟩
  · replace hv := hv.2 h2
    refine e_lload_n (pc := 19) (i := 2) dX11_sumBelow_19 rfl rfl ?_
    refine e_aload_n (pc := 20) (i := 0) dX11_sumBelow_20 rfl rfl ?_
    refine e_getR (pc := 21) dX11_sumBelow_21 fRX11_32 rfl k1 ?_
    refine e_aload_n (pc := 24) (i := 0) dX11_sumBelow_24 rfl rfl ?_
    refine e_getR (pc := 25) dX11_sumBelow_25 fRX11_124 rfl k1 ?_
    refine e_iload (pc := 28) (i := 4) dX11_sumBelow_28 rfl ?_
    have k3 := hv.1
    replace hv := hv.2
    have hi4 := hv.1
    replace hv := hv.2
    refine e_iald (pc := 30) dX11_sumBelow_30 k3 hi4 ?_
    have k5 := hv.1
    replace hv := hv.2
    have hi6 := hv.1
    replace hv := hv.2
    refine e_lald (pc := 31) dX11_sumBelow_31 k5 hi6 ?_
    refine e_ladd (pc := 32) dX11_sumBelow_32 ?_
    refine e_lstore_n (pc := 33) (i := 2) (lv' := [(0, vR l0), (2, vJ (l2 + (xJ w (wR w 11 8 l0) (xI w (wR w 11 47 l0) l4.toNatClampNeg).toNatClampNeg))), (4, vI l4)]) dX11_sumBelow_33 rfl (by decide) rfl ?_
    refine e_iinc (pc := 34) (v := l4 + 1) (lv' := [(0, vR l0), (2, vJ (l2 + (xJ w (wR w 11 8 l0) (xI w (wR w 11 47 l0) l4.toNatClampNeg).toNatClampNeg))), (4, vI (l4 + 1))]) dX11_sumBelow_34 rfl rfl (by decide) rfl ?_
    refine e_goto (pc := 37) (tgt := 10) dX11_sumBelow_37 (by decide) ?_
    exact hv
set_option maxRecDepth 100000 in
set_option maxHeartbeats 4000000 in
theorem oX11_sumBelow (X : Cx) (A : Int64 → Wd → Prop) (a0 : Nat) (a1 : Int32) (w : Wd)
    (hv : wK w a0 = 12 ∧ Ct X bX11_leavesOf mX11_leavesOf [vR a0, vI a1] w (qV fun w1 => jX11_sumBelow_10 X A a0 0 0 w1)) :
    Ct X bX11_sumBelow mX11_sumBelow [vR a0, vI a1] w (qJ A) := by
  refine Ct.of (lv := [(0, vR a0), (1, vI a1)]) rfl (Nat.le_of_ble_eq_true rfl) rfl ?_
  refine e_aload_n (pc := 0) (i := 0) dX11_sumBelow_0 rfl rfl ?_
  refine e_iload_n (pc := 1) (i := 1) dX11_sumBelow_1 rfl rfl ?_
  have k3 := hv.1
  replace hv := hv.2
  refine e_callVv (pc := 2) (ci := 11) (st := []) (rc' := 0) (rs' := 0) (B' := bX11_leavesOf) [vI a1] dX11_sumBelow_2 vRX11_206 kX11_leavesOf (by decide) rfl k3 rfl rfl (Nat.le_of_ble_eq_true rfl) ⟨Nat.le_of_ble_eq_true rfl, Nat.le_of_ble_eq_true rfl⟩ rfl rfl hv (fun w1 hv => ?_)
  refine e_lconst (pc := 5) (v := 0) dX11_sumBelow_5 (by decide) ?_
  refine e_lstore_n (pc := 6) (i := 2) (lv' := [(0, vR a0), (1, vI a1), (2, vJ 0)]) dX11_sumBelow_6 rfl (by decide) rfl ?_
  refine e_iconst (pc := 7) (v := 0) dX11_sumBelow_7 (by decide) ?_
  refine e_istore (pc := 8) (i := 4) (lv' := [(0, vR a0), (1, vI a1), (2, vJ 0), (4, vI 0)]) dX11_sumBelow_8 (by decide) rfl ?_
  exact EJ.drop [0, 2, 4] rfl hv
abbrev jX11_dueOfSum_69 (X : Cx) (A : Int64 → Wd → Prop) (l0 : Nat) (l1 : Int32) (l2 : Int64) (s0 : Int32) (w : Wd) : Prop := EJ X mX11_dueOfSum (vw X bX11_dueOfSum (qJ A)) 0 0 69 [(0, vR l0), (1, vI l1), (2, vJ l2)] [vI s0] w
abbrev jX11_dueOfSum_117 (X : Cx) (A : Int64 → Wd → Prop) (l0 : Nat) (l1 : Int32) (l2 : Int64) (l4 : Int32) (s0 : Int32) (w : Wd) : Prop := EJ X mX11_dueOfSum (vw X bX11_dueOfSum (qJ A)) 0 0 117 [(0, vR l0), (1, vI l1), (2, vJ l2), (4, vI l4)] [vI s0] w
set_option maxRecDepth 100000 in
set_option maxHeartbeats 4000000 in
theorem tX11_dueOfSum_117 (X : Cx) (A : Int64 → Wd → Prop) (l0 : Nat) (l1 : Int32) (l2 : Int64) (l4 : Int32) (s0 : Int32) (w : Wd)
    (hv : wK w l0 = 12 ∧ wK w (wR w 11 17 l0) = 13 ∧ vp_in l1 (wL w (wR w 11 17 l0)) ∧ wK w (wR w 11 11 l0) = 13 ∧ vp_in l1 (wL w (wR w 11 11 l0)) ∧ ((¬ l4 = 3) → A (l2 + (((l2 * ((xI w (wR w 11 11 l0) l1.toNatClampNeg).toInt64)) * ((if ((wI w 11 39 l0) - (xI w (wR w 11 17 l0) l1.toNatClampNeg)) < s0 then ((wI w 11 39 l0) - (xI w (wR w 11 17 l0) l1.toNatClampNeg)) else s0).toInt64)) / 365000)) w) ∧ ((l4 = 3) → wK w (wR w 11 12 l0) = 14 ∧ vp_in l1 (wL w (wR w 11 12 l0)) ∧ A (if (l2 + (((l2 * ((xI w (wR w 11 11 l0) l1.toNatClampNeg).toInt64)) * ((if ((wI w 11 39 l0) - (xI w (wR w 11 17 l0) l1.toNatClampNeg)) < s0 then ((wI w 11 39 l0) - (xI w (wR w 11 17 l0) l1.toNatClampNeg)) else s0).toInt64)) / 365000)) < (xJ w (wR w 11 12 l0) l1.toNatClampNeg) then (l2 + (((l2 * ((xI w (wR w 11 11 l0) l1.toNatClampNeg).toInt64)) * ((if ((wI w 11 39 l0) - (xI w (wR w 11 17 l0) l1.toNatClampNeg)) < s0 then ((wI w 11 39 l0) - (xI w (wR w 11 17 l0) l1.toNatClampNeg)) else s0).toInt64)) / 365000)) else (xJ w (wR w 11 12 l0) l1.toNatClampNeg)) w)) :
    jX11_dueOfSum_117 X A l0 l1 l2 l4 s0 w := by
  refine e_istore (pc := 117) (i := 5) (lv' := [(0, vR l0), (1, vI l1), (2, vJ l2), (4, vI l4), (5, vI s0)]) dX11_dueOfSum_117 (by decide) rfl ?_
  refine e_iload (pc := 119) (i := 5) dX11_dueOfSum_119 rfl ?_
  refine e_aload_n (pc := 121) (i := 0) dX11_dueOfSum_121 rfl rfl ?_
  have k1 := hv.1
  replace hv := hv.2
  refine e_getI (pc := 122) dX11_dueOfSum_122 fRX11_166 rfl k1 ?_
  refine e_aload_n (pc := 125) (i := 0) dX11_dueOfSum_125 rfl rfl ?_
  refine e_getR (pc := 126) dX11_dueOfSum_126 fRX11_60 rfl k1 ?_
  refine e_iload_n (pc := 129) (i := 1) dX11_dueOfSum_129 rfl rfl ?_
  have k2 := hv.1
  replace hv := hv.2
  have hi3 := hv.1
  replace hv := hv.2
  refine e_iald (pc := 130) dX11_dueOfSum_130 k2 hi3 ?_
  refine e_isub (pc := 131) dX11_dueOfSum_131 ?_
  refine e_mmin (pc := 132) dX11_dueOfSum_132 (tb_a5 136 (by decide +kernel) rfl) (Nat.le_of_ble_eq_true rfl) (Nat.le_of_ble_eq_true rfl) ?_
  refine e_i2l (pc := 135) dX11_dueOfSum_135 ?_
  refine e_lstore (pc := 136) (i := 6) (lv' := [(0, vR l0), (1, vI l1), (2, vJ l2), (4, vI l4), (5, vI s0), (6, vJ ((if ((wI w 11 39 l0) - (xI w (wR w 11 17 l0) l1.toNatClampNeg)) < s0 then ((wI w 11 39 l0) - (xI w (wR w 11 17 l0) l1.toNatClampNeg)) else s0).toInt64))]) dX11_dueOfSum_136 (by decide) rfl ?_
  refine e_lload_n (pc := 138) (i := 2) dX11_dueOfSum_138 rfl rfl ?_
  refine e_lload_n (pc := 139) (i := 2) dX11_dueOfSum_139 rfl rfl ?_
  refine e_aload_n (pc := 140) (i := 0) dX11_dueOfSum_140 rfl rfl ?_
  refine e_getR (pc := 141) dX11_dueOfSum_141 fRX11_42 rfl k1 ?_
  refine e_iload_n (pc := 144) (i := 1) dX11_dueOfSum_144 rfl rfl ?_
  have k4 := hv.1
  replace hv := hv.2
  have hi5 := hv.1
  replace hv := hv.2
  refine e_iald (pc := 145) dX11_dueOfSum_145 k4 hi5 ?_
  refine e_i2l (pc := 146) dX11_dueOfSum_146 ?_
  refine e_lmul (pc := 147) dX11_dueOfSum_147 ?_
  refine e_lload (pc := 148) (i := 6) dX11_dueOfSum_148 rfl ?_
  refine e_lmul (pc := 150) dX11_dueOfSum_150 ?_
  refine e_ldc2 (pc := 151) (v := 365000) dX11_dueOfSum_151 (tb_a5 137 (by decide +kernel) rfl) ?_
  refine e_ldiv (pc := 154) dX11_dueOfSum_154 (by decide) ?_
  refine e_ladd (pc := 155) dX11_dueOfSum_155 ?_
  refine e_lstore (pc := 156) (i := 8) (lv' := [(0, vR l0), (1, vI l1), (2, vJ l2), (4, vI l4), (5, vI s0), (6, vJ ((if ((wI w 11 39 l0) - (xI w (wR w 11 17 l0) l1.toNatClampNeg)) < s0 then ((wI w 11 39 l0) - (xI w (wR w 11 17 l0) l1.toNatClampNeg)) else s0).toInt64)), (8, vJ (l2 + (((l2 * ((xI w (wR w 11 11 l0) l1.toNatClampNeg).toInt64)) * ((if ((wI w 11 39 l0) - (xI w (wR w 11 17 l0) l1.toNatClampNeg)) < s0 then ((wI w 11 39 l0) - (xI w (wR w 11 17 l0) l1.toNatClampNeg)) else s0).toInt64)) / 365000)))]) dX11_dueOfSum_156 (by decide) rfl ?_
  refine e_iload (pc := 158) (i := 4) dX11_dueOfSum_158 rfl ?_
  refine e_iconst (pc := 160) (v := 3) dX11_dueOfSum_160 (by decide) ?_
  refine e_icmp_ne (pc := 161) (tgt := 178) dX11_dueOfSum_161 (by decide) (fun h6 => ?_) (fun h6 => ?_)
  · replace hv := hv.1 h6
    refine e_lload (pc := 178) (i := 8) dX11_dueOfSum_178 rfl ?_
    exact e_lreturn (pc := 180) dX11_dueOfSum_180 rfl ⟨_, rfl, hv⟩
  · replace hv := hv.2 h6
    refine e_aload_n (pc := 164) (i := 0) dX11_dueOfSum_164 rfl rfl ?_
    refine e_getR (pc := 165) dX11_dueOfSum_165 fRX11_45 rfl k1 ?_
    refine e_iload_n (pc := 168) (i := 1) dX11_dueOfSum_168 rfl rfl ?_
    have k7 := hv.1
    replace hv := hv.2
    have hi8 := hv.1
    replace hv := hv.2
    refine e_lald (pc := 169) dX11_dueOfSum_169 k7 hi8 ?_
    refine e_lload (pc := 170) (i := 8) dX11_dueOfSum_170 rfl ?_
    refine e_mminJ (pc := 172) dX11_dueOfSum_172 (tb_a5 138 (by decide +kernel) rfl) (Nat.le_of_ble_eq_true rfl) (Nat.le_of_ble_eq_true rfl) ?_
    refine e_goto (pc := 175) (tgt := 180) dX11_dueOfSum_175 (by decide) ?_
    exact e_lreturn (pc := 180) dX11_dueOfSum_180 rfl ⟨_, rfl, hv⟩
set_option maxRecDepth 100000 in
set_option maxHeartbeats 4000000 in
theorem tX11_dueOfSum_69 (X : Cx) (A : Int64 → Wd → Prop) (l0 : Nat) (l1 : Int32) (l2 : Int64) (s0 : Int32) (w : Wd)
    (hv : wK w l0 = 12 ∧ wK w (wR w 11 18 l0) = 15 ∧ vp_in l1 (wL w (wR w 11 18 l0)) ∧ (((xI w (wR w 11 18 l0) l1.toNatClampNeg) = 0) → A (l2 * ((if s0 < (20 : Int32) then s0 else (20 : Int32)).toInt64)) w) ∧ ((¬ (xI w (wR w 11 18 l0) l1.toNatClampNeg) = 0) → A l2 w)) :
    jX11_dueOfSum_69 X A l0 l1 l2 s0 w := by
  refine e_istore (pc := 69) (i := 5) (lv' := [(0, vR l0), (1, vI l1), (2, vJ l2), (5, vI s0)]) dX11_dueOfSum_69 (by decide) rfl ?_
  refine e_aload_n (pc := 71) (i := 0) dX11_dueOfSum_71 rfl rfl ?_
  have k1 := hv.1
  replace hv := hv.2
  refine e_getR (pc := 72) dX11_dueOfSum_72 fRX11_63 rfl k1 ?_
  refine e_iload_n (pc := 75) (i := 1) dX11_dueOfSum_75 rfl rfl ?_
  have k2 := hv.1
  replace hv := hv.2
  have hi3 := hv.1
  replace hv := hv.2
  refine e_zald (pc := 76) dX11_dueOfSum_76 k2 hi3 ?_
  refine e_if_eq (pc := 77) (tgt := 84) dX11_dueOfSum_77 (by decide) (fun h4 => ?_) (fun h4 => ?_)
  · replace hv := hv.1 h4
    refine e_lload_n (pc := 84) (i := 2) dX11_dueOfSum_84 rfl rfl ?_
    refine e_bipush (pc := 85) (v := 20) dX11_dueOfSum_85 (by decide) ?_
    refine e_iload (pc := 87) (i := 5) dX11_dueOfSum_87 rfl ?_
    refine e_mmin (pc := 89) dX11_dueOfSum_89 (tb_a5 136 (by decide +kernel) rfl) (Nat.le_of_ble_eq_true rfl) (Nat.le_of_ble_eq_true rfl) ?_
    refine e_i2l (pc := 92) dX11_dueOfSum_92 ?_
    refine e_lmul (pc := 93) dX11_dueOfSum_93 ?_
    exact e_lreturn (pc := 94) dX11_dueOfSum_94 rfl ⟨_, rfl, hv⟩
  · replace hv := hv.2 h4
    refine e_lload_n (pc := 80) (i := 2) dX11_dueOfSum_80 rfl rfl ?_
    refine e_goto (pc := 81) (tgt := 94) dX11_dueOfSum_81 (by decide) ?_
    exact e_lreturn (pc := 94) dX11_dueOfSum_94 rfl ⟨_, rfl, hv⟩
set_option maxRecDepth 100000 in
set_option maxHeartbeats 4000000 in
theorem oX11_dueOfSum (X : Cx) (A : Int64 → Wd → Prop) (a0 : Nat) (a1 : Int32) (a2 : Int64) (w : Wd)
    (hv : wK w a0 = 12 ∧ wK w (wR w 11 3 a0) = 13 ∧ vp_in a1 (wL w (wR w 11 3 a0)) ∧ ((¬ (xI w (wR w 11 3 a0) a1.toNatClampNeg) = 6) → ((¬ (xI w (wR w 11 3 a0) a1.toNatClampNeg) = 4) → ((¬ (xI w (wR w 11 3 a0) a1.toNatClampNeg) = 5) → jX11_dueOfSum_117 X A a0 a1 a2 (xI w (wR w 11 3 a0) a1.toNatClampNeg) 730 w) ∧ (((xI w (wR w 11 3 a0) a1.toNatClampNeg) = 5) → wK w (wR w 11 21 a0) = 13 ∧ vp_in a1 (wL w (wR w 11 21 a0)) ∧ jX11_dueOfSum_117 X A a0 a1 a2 (xI w (wR w 11 3 a0) a1.toNatClampNeg) (365 * (xI w (wR w 11 21 a0) a1.toNatClampNeg)) w)) ∧ (((xI w (wR w 11 3 a0) a1.toNatClampNeg) = 4) → wK w (wR w 11 11 a0) = 13 ∧ vp_in a1 (wL w (wR w 11 11 a0)) ∧ ((¬ (xI w (wR w 11 11 a0) a1.toNatClampNeg) = 0) → vp_in a1 (wL w (wR w 11 11 a0)) ∧ (((wI w 11 39 a0) < (xI w (wR w 11 11 a0) a1.toNatClampNeg)) → vp_in a1 (wL w (wR w 11 11 a0)) ∧ jX11_dueOfSum_69 X A a0 a1 a2 (((xI w (wR w 11 11 a0) a1.toNatClampNeg) - (wI w 11 39 a0)) / 365) w) ∧ ((¬ (wI w 11 39 a0) < (xI w (wR w 11 11 a0) a1.toNatClampNeg)) → jX11_dueOfSum_69 X A a0 a1 a2 0 w)) ∧ (((xI w (wR w 11 11 a0) a1.toNatClampNeg) = 0) → jX11_dueOfSum_69 X A a0 a1 a2 20 w))) ∧ (((xI w (wR w 11 3 a0) a1.toNatClampNeg) = 6) → A 0 w)) :
    Ct X bX11_dueOfSum mX11_dueOfSum [vR a0, vI a1, vJ a2] w (qJ A) := by
  refine Ct.of (lv := [(0, vR a0), (1, vI a1), (2, vJ a2)]) rfl (Nat.le_of_ble_eq_true rfl) rfl ?_
  refine e_aload_n (pc := 0) (i := 0) dX11_dueOfSum_0 rfl rfl ?_
  have k1 := hv.1
  replace hv := hv.2
  refine e_getR (pc := 1) dX11_dueOfSum_1 fRX11_17 rfl k1 ?_
  refine e_iload_n (pc := 4) (i := 1) dX11_dueOfSum_4 rfl rfl ?_
  have k2 := hv.1
  replace hv := hv.2
  have hi3 := hv.1
  replace hv := hv.2
  refine e_iald (pc := 5) dX11_dueOfSum_5 k2 hi3 ?_
  refine e_istore (pc := 6) (i := 4) (lv' := [(0, vR a0), (1, vI a1), (2, vJ a2), (4, vI (xI w (wR w 11 3 a0) a1.toNatClampNeg))]) dX11_dueOfSum_6 (by decide) rfl ?_
  refine e_iload (pc := 8) (i := 4) dX11_dueOfSum_8 rfl ?_
  refine e_bipush (pc := 10) (v := 6) dX11_dueOfSum_10 (by decide) ?_
  refine e_icmp_ne (pc := 12) (tgt := 17) dX11_dueOfSum_12 (by decide) (fun h4 => ?_) (fun h4 => ?_)
  · replace hv := hv.1 h4
    refine e_iload (pc := 17) (i := 4) dX11_dueOfSum_17 rfl ?_
    refine e_iconst (pc := 19) (v := 4) dX11_dueOfSum_19 (by decide) ?_
    refine e_icmp_ne (pc := 20) (tgt := 95) dX11_dueOfSum_20 (by decide) (fun h5 => ?_) (fun h5 => ?_)
    · replace hv := hv.1 h5
      refine e_iload (pc := 95) (i := 4) dX11_dueOfSum_95 rfl ?_
      refine e_iconst (pc := 97) (v := 5) dX11_dueOfSum_97 (by decide) ?_
      refine e_icmp_ne (pc := 98) (tgt := 114) dX11_dueOfSum_98 (by decide) (fun h6 => ?_) (fun h6 => ?_)
      · replace hv := hv.1 h6
        refine e_sipush (pc := 114) (v := 730) dX11_dueOfSum_114 (by decide) ?_
        exact hv
      · replace hv := hv.2 h6
        refine e_sipush (pc := 101) (v := 365) dX11_dueOfSum_101 (by decide) ?_
        refine e_aload_n (pc := 104) (i := 0) dX11_dueOfSum_104 rfl rfl ?_
        refine e_getR (pc := 105) dX11_dueOfSum_105 fRX11_72 rfl k1 ?_
        refine e_iload_n (pc := 108) (i := 1) dX11_dueOfSum_108 rfl rfl ?_
        have k7 := hv.1
        replace hv := hv.2
        have hi8 := hv.1
        replace hv := hv.2
        refine e_iald (pc := 109) dX11_dueOfSum_109 k7 hi8 ?_
        refine e_imul (pc := 110) dX11_dueOfSum_110 ?_
        refine e_goto (pc := 111) (tgt := 117) dX11_dueOfSum_111 (by decide) ?_
        exact hv
    · replace hv := hv.2 h5
      refine e_aload_n (pc := 23) (i := 0) dX11_dueOfSum_23 rfl rfl ?_
      refine e_getR (pc := 24) dX11_dueOfSum_24 fRX11_42 rfl k1 ?_
      refine e_iload_n (pc := 27) (i := 1) dX11_dueOfSum_27 rfl rfl ?_
      have k9 := hv.1
      replace hv := hv.2
      have hi10 := hv.1
      replace hv := hv.2
      refine e_iald (pc := 28) dX11_dueOfSum_28 k9 hi10 ?_
      refine e_if_ne (pc := 29) (tgt := 37) dX11_dueOfSum_29 (by decide) (fun h11 => ?_) (fun h11 => ?_)
      · replace hv := hv.1 h11
        refine e_aload_n (pc := 37) (i := 0) dX11_dueOfSum_37 rfl rfl ?_
        refine e_getR (pc := 38) dX11_dueOfSum_38 fRX11_42 rfl k1 ?_
        refine e_iload_n (pc := 41) (i := 1) dX11_dueOfSum_41 rfl rfl ?_
        have hi12 := hv.1
        replace hv := hv.2
        refine e_iald (pc := 42) dX11_dueOfSum_42 k9 hi12 ?_
        refine e_aload_n (pc := 43) (i := 0) dX11_dueOfSum_43 rfl rfl ?_
        refine e_getI (pc := 44) dX11_dueOfSum_44 fRX11_166 rfl k1 ?_
        refine e_icmp_gt (pc := 47) (tgt := 54) dX11_dueOfSum_47 (by decide) (fun h13 => ?_) (fun h13 => ?_)
        · replace hv := hv.1 h13
          refine e_aload_n (pc := 54) (i := 0) dX11_dueOfSum_54 rfl rfl ?_
          refine e_getR (pc := 55) dX11_dueOfSum_55 fRX11_42 rfl k1 ?_
          refine e_iload_n (pc := 58) (i := 1) dX11_dueOfSum_58 rfl rfl ?_
          have hi14 := hv.1
          replace hv := hv.2
          refine e_iald (pc := 59) dX11_dueOfSum_59 k9 hi14 ?_
          refine e_aload_n (pc := 60) (i := 0) dX11_dueOfSum_60 rfl rfl ?_
          refine e_getI (pc := 61) dX11_dueOfSum_61 fRX11_166 rfl k1 ?_
          refine e_isub (pc := 64) dX11_dueOfSum_64 ?_
          refine e_sipush (pc := 65) (v := 365) dX11_dueOfSum_65 (by decide) ?_
          refine e_idiv (pc := 68) dX11_dueOfSum_68 (by decide) ?_
          exact EJ.drop [0, 1, 2] rfl hv
        · replace hv := hv.2 h13
          refine e_iconst (pc := 50) (v := 0) dX11_dueOfSum_50 (by decide) ?_
          refine e_goto (pc := 51) (tgt := 69) dX11_dueOfSum_51 (by decide) ?_
          exact EJ.drop [0, 1, 2] rfl hv
      · replace hv := hv.2 h11
        refine e_bipush (pc := 32) (v := 20) dX11_dueOfSum_32 (by decide) ?_
        refine e_goto (pc := 34) (tgt := 69) dX11_dueOfSum_34 (by decide) ?_
        exact EJ.drop [0, 1, 2] rfl hv
  · replace hv := hv.2 h4
    refine e_lconst (pc := 15) (v := 0) dX11_dueOfSum_15 (by decide) ?_
    exact e_lreturn (pc := 16) dX11_dueOfSum_16 rfl ⟨_, rfl, hv⟩
abbrev jX11_dues_13 (X : Cx) (A : Wd → Prop) (l0 : Nat) (l1 : Int32) (l2 : Int64) (l4 : Int64) (l6 : Int32) (w : Wd) : Prop := EJ X mX11_dues (vw X bX11_dues (qV A)) 0 0 13 [(0, vR l0), (1, vI l1), (2, vJ l2), (4, vJ l4), (6, vI l6)] [] w
set_option maxRecDepth 100000 in
set_option maxHeartbeats 4000000 in
theorem tX11_dues_13 (X : Cx) (A : Wd → Prop) (l0 : Nat) (l1 : Int32) (l2 : Int64) (l4 : Int64) (l6 : Int32) (w : Wd)
    (hv : wK w l0 = 12 ∧ (((wI w 11 48 l0) ≤ l6) → A w) ∧ ((¬ (wI w 11 48 l0) ≤ l6) → wK w (wR w 11 47 l0) = 13 ∧ vp_in l6 (wL w (wR w 11 47 l0)) ∧ wK w (wR w 11 8 l0) = 14 ∧ vp_in (xI w (wR w 11 47 l0) l6.toNatClampNeg) (wL w (wR w 11 8 l0)) ∧ Ct X bX11_dueOfSum mX11_dueOfSum [vR l0, vI l1, vJ (l2 + (xJ w (wR w 11 8 l0) (xI w (wR w 11 47 l0) l6.toNatClampNeg).toNatClampNeg))] w (qJ fun x8 w7 => wK w7 l0 = 12 ∧ wK w7 (wR w7 11 47 l0) = 13 ∧ vp_in l6 (wL w7 (wR w7 11 47 l0)) ∧ wK w7 (wR w7 11 49 l0) = 14 ∧ vp_in (xI w7 (wR w7 11 47 l0) l6.toNatClampNeg) (wL w7 (wR w7 11 49 l0)) ∧ ∀ w14 : Wd, w14 = yJ w7 (wR w7 11 49 l0) (xI w7 (wR w7 11 47 l0) l6.toNatClampNeg).toNatClampNeg (x8 - l4) → jX11_dues_13 X A l0 l1 (l2 + (xJ w (wR w 11 8 l0) (xI w (wR w 11 47 l0) l6.toNatClampNeg).toNatClampNeg)) x8 (l6 + 1) w14))) :
    jX11_dues_13 X A l0 l1 l2 l4 l6 w := by
  refine e_iload (pc := 13) (i := 6) dX11_dues_13 rfl ?_
  refine e_aload_n (pc := 15) (i := 0) dX11_dues_15 rfl rfl ?_
  have k1 := hv.1
  replace hv := hv.2
  refine e_getI (pc := 16) dX11_dues_16 fRX11_199 rfl k1 ?_
  refine e_icmp_ge (pc := 19) (tgt := 72) dX11_dues_19 (by decide) (fun h2 => ?_) (fun h2 => ?_)
  · replace hv := hv.1 h2
    exact e_vreturn (pc := 72) dX11_dues_72 rfl ⟨rfl, hv⟩
  · replace hv := hv.2 h2
    refine e_lload_n (pc := 22) (i := 2) dX11_dues_22 rfl rfl ?_
    refine e_aload_n (pc := 23) (i := 0) dX11_dues_23 rfl rfl ?_
    refine e_getR (pc := 24) dX11_dues_24 fRX11_32 rfl k1 ?_
    refine e_aload_n (pc := 27) (i := 0) dX11_dues_27 rfl rfl ?_
    refine e_getR (pc := 28) dX11_dues_28 fRX11_124 rfl k1 ?_
    refine e_iload (pc := 31) (i := 6) dX11_dues_31 rfl ?_
    have k3 := hv.1
    replace hv := hv.2
    have hi4 := hv.1
    replace hv := hv.2
    refine e_iald (pc := 33) dX11_dues_33 k3 hi4 ?_
    have k5 := hv.1
    replace hv := hv.2
    have hi6 := hv.1
    replace hv := hv.2
    refine e_lald (pc := 34) dX11_dues_34 k5 hi6 ?_
    refine e_ladd (pc := 35) dX11_dues_35 ?_
    refine e_lstore_n (pc := 36) (i := 2) (lv' := [(0, vR l0), (1, vI l1), (2, vJ (l2 + (xJ w (wR w 11 8 l0) (xI w (wR w 11 47 l0) l6.toNatClampNeg).toNatClampNeg))), (4, vJ l4), (6, vI l6)]) dX11_dues_36 rfl (by decide) rfl ?_
    refine e_aload_n (pc := 37) (i := 0) dX11_dues_37 rfl rfl ?_
    refine e_iload_n (pc := 38) (i := 1) dX11_dues_38 rfl rfl ?_
    refine e_lload_n (pc := 39) (i := 2) dX11_dues_39 rfl rfl ?_
    refine e_callVj (pc := 40) (ci := 11) (st := []) (rc' := 0) (rs' := 0) (B' := bX11_dueOfSum) [vI l1, vJ (l2 + (xJ w (wR w 11 8 l0) (xI w (wR w 11 47 l0) l6.toNatClampNeg).toNatClampNeg))] dX11_dues_40 vRX11_220 kX11_dueOfSum (by decide) rfl k1 rfl rfl (Nat.le_of_ble_eq_true rfl) ⟨Nat.le_of_ble_eq_true rfl, Nat.le_of_ble_eq_true rfl⟩ rfl rfl hv (fun x8 w7 hv => ?_)
    refine e_lstore (pc := 43) (i := 7) (lv' := [(0, vR l0), (1, vI l1), (2, vJ (l2 + (xJ w (wR w 11 8 l0) (xI w (wR w 11 47 l0) l6.toNatClampNeg).toNatClampNeg))), (4, vJ l4), (6, vI l6), (7, vJ x8)]) dX11_dues_43 (by decide) rfl ?_
    refine e_aload_n (pc := 45) (i := 0) dX11_dues_45 rfl rfl ?_
    have k9 := hv.1
    replace hv := hv.2
    refine e_getR (pc := 46) dX11_dues_46 fRX11_127 rfl k9 ?_
    refine e_aload_n (pc := 49) (i := 0) dX11_dues_49 rfl rfl ?_
    refine e_getR (pc := 50) dX11_dues_50 fRX11_124 rfl k9 ?_
    refine e_iload (pc := 53) (i := 6) dX11_dues_53 rfl ?_
    have k10 := hv.1
    replace hv := hv.2
    have hi11 := hv.1
    replace hv := hv.2
    refine e_iald (pc := 55) dX11_dues_55 k10 hi11 ?_
    refine e_lload (pc := 56) (i := 7) dX11_dues_56 rfl ?_
    refine e_lload (pc := 58) (i := 4) dX11_dues_58 rfl ?_
    refine e_lsub (pc := 60) dX11_dues_60 ?_
    have k12 := hv.1
    replace hv := hv.2
    have hi13 := hv.1
    replace hv := hv.2
    obtain ⟨w14, hw14⟩ : ∃ w14 : Wd, w14 = yJ w7 (wR w7 11 49 l0) (xI w7 (wR w7 11 47 l0) l6.toNatClampNeg).toNatClampNeg (x8 - l4) := ⟨_, rfl⟩
    replace hv := hv w14 hw14
    refine e_last (pc := 61) dX11_dues_61 k12 hi13 ?_
    rw [← hw14]
    refine e_lload (pc := 62) (i := 7) dX11_dues_62 rfl ?_
    refine e_lstore (pc := 64) (i := 4) (lv' := [(0, vR l0), (1, vI l1), (2, vJ (l2 + (xJ w (wR w 11 8 l0) (xI w (wR w 11 47 l0) l6.toNatClampNeg).toNatClampNeg))), (4, vJ x8), (6, vI l6), (7, vJ x8)]) dX11_dues_64 (by decide) rfl ?_
    refine e_iinc (pc := 66) (v := l6 + 1) (lv' := [(0, vR l0), (1, vI l1), (2, vJ (l2 + (xJ w (wR w 11 8 l0) (xI w (wR w 11 47 l0) l6.toNatClampNeg).toNatClampNeg))), (4, vJ x8), (6, vI (l6 + 1)), (7, vJ x8)]) dX11_dues_66 rfl rfl (by decide) rfl ?_
    refine e_goto (pc := 69) (tgt := 13) dX11_dues_69 (by decide) ?_
    exact EJ.drop [0, 1, 2, 4, 6] rfl hv
set_option maxRecDepth 100000 in
set_option maxHeartbeats 4000000 in
theorem oX11_dues (X : Cx) (A : Wd → Prop) (a0 : Nat) (a1 : Int32) (w : Wd)
    (hv : wK w a0 = 12 ∧ Ct X bX11_leavesOf mX11_leavesOf [vR a0, vI a1] w (qV fun w1 => jX11_dues_13 X A a0 a1 0 0 0 w1)) :
    Ct X bX11_dues mX11_dues [vR a0, vI a1] w (qV A) := by
  refine Ct.of (lv := [(0, vR a0), (1, vI a1)]) rfl (Nat.le_of_ble_eq_true rfl) rfl ?_
  refine e_aload_n (pc := 0) (i := 0) dX11_dues_0 rfl rfl ?_
  refine e_iload_n (pc := 1) (i := 1) dX11_dues_1 rfl rfl ?_
  have k3 := hv.1
  replace hv := hv.2
  refine e_callVv (pc := 2) (ci := 11) (st := []) (rc' := 0) (rs' := 0) (B' := bX11_leavesOf) [vI a1] dX11_dues_2 vRX11_206 kX11_leavesOf (by decide) rfl k3 rfl rfl (Nat.le_of_ble_eq_true rfl) ⟨Nat.le_of_ble_eq_true rfl, Nat.le_of_ble_eq_true rfl⟩ rfl rfl hv (fun w1 hv => ?_)
  refine e_lconst (pc := 5) (v := 0) dX11_dues_5 (by decide) ?_
  refine e_lstore_n (pc := 6) (i := 2) (lv' := [(0, vR a0), (1, vI a1), (2, vJ 0)]) dX11_dues_6 rfl (by decide) rfl ?_
  refine e_lconst (pc := 7) (v := 0) dX11_dues_7 (by decide) ?_
  refine e_lstore (pc := 8) (i := 4) (lv' := [(0, vR a0), (1, vI a1), (2, vJ 0), (4, vJ 0)]) dX11_dues_8 (by decide) rfl ?_
  refine e_iconst (pc := 10) (v := 0) dX11_dues_10 (by decide) ?_
  refine e_istore (pc := 11) (i := 6) (lv' := [(0, vR a0), (1, vI a1), (2, vJ 0), (4, vJ 0), (6, vI 0)]) dX11_dues_11 (by decide) rfl ?_
  exact hv
abbrev jX11_due_32 (X : Cx) (A : Int64 → Wd → Prop) (l0 : Nat) (l2 : Int64) (l4 : Int32) (w : Wd) : Prop := EJ X mX11_due (vw X bX11_due (qJ A)) 0 0 32 [(0, vR l0), (2, vJ l2), (4, vI l4)] [] w
set_option maxRecDepth 100000 in
set_option maxHeartbeats 4000000 in
theorem tX11_due_32 (X : Cx) (A : Int64 → Wd → Prop) (l0 : Nat) (l2 : Int64) (l4 : Int32) (w : Wd)
    (hv : wK w l0 = 12 ∧ (((wI w 11 48 l0) ≤ l4) → A l2 w) ∧ ((¬ (wI w 11 48 l0) ≤ l4) → wK w (wR w 11 47 l0) = 13 ∧ vp_in l4 (wL w (wR w 11 47 l0)) ∧ wK w (wR w 11 49 l0) = 14 ∧ vp_in (xI w (wR w 11 47 l0) l4.toNatClampNeg) (wL w (wR w 11 49 l0)) ∧ jX11_due_32 X A l0 (l2 + (xJ w (wR w 11 49 l0) (xI w (wR w 11 47 l0) l4.toNatClampNeg).toNatClampNeg)) (l4 + 1) w)) :
    jX11_due_32 X A l0 l2 l4 w := by
  refine e_iload (pc := 32) (i := 4) dX11_due_32 rfl ?_
  refine e_aload_n (pc := 34) (i := 0) dX11_due_34 rfl rfl ?_
  have k1 := hv.1
  replace hv := hv.2
  refine e_getI (pc := 35) dX11_due_35 fRX11_199 rfl k1 ?_
  refine e_icmp_ge (pc := 38) (tgt := 62) dX11_due_38 (by decide) (fun h2 => ?_) (fun h2 => ?_)
  · replace hv := hv.1 h2
    refine e_lload_n (pc := 62) (i := 2) dX11_due_62 rfl rfl ?_
    exact e_lreturn (pc := 63) dX11_due_63 rfl ⟨_, rfl, hv⟩
  · replace hv := hv.2 h2
    refine e_lload_n (pc := 41) (i := 2) dX11_due_41 rfl rfl ?_
    refine e_aload_n (pc := 42) (i := 0) dX11_due_42 rfl rfl ?_
    refine e_getR (pc := 43) dX11_due_43 fRX11_127 rfl k1 ?_
    refine e_aload_n (pc := 46) (i := 0) dX11_due_46 rfl rfl ?_
    refine e_getR (pc := 47) dX11_due_47 fRX11_124 rfl k1 ?_
    refine e_iload (pc := 50) (i := 4) dX11_due_50 rfl ?_
    have k3 := hv.1
    replace hv := hv.2
    have hi4 := hv.1
    replace hv := hv.2
    refine e_iald (pc := 52) dX11_due_52 k3 hi4 ?_
    have k5 := hv.1
    replace hv := hv.2
    have hi6 := hv.1
    replace hv := hv.2
    refine e_lald (pc := 53) dX11_due_53 k5 hi6 ?_
    refine e_ladd (pc := 54) dX11_due_54 ?_
    refine e_lstore_n (pc := 55) (i := 2) (lv' := [(0, vR l0), (2, vJ (l2 + (xJ w (wR w 11 49 l0) (xI w (wR w 11 47 l0) l4.toNatClampNeg).toNatClampNeg))), (4, vI l4)]) dX11_due_55 rfl (by decide) rfl ?_
    refine e_iinc (pc := 56) (v := l4 + 1) (lv' := [(0, vR l0), (2, vJ (l2 + (xJ w (wR w 11 49 l0) (xI w (wR w 11 47 l0) l4.toNatClampNeg).toNatClampNeg))), (4, vI (l4 + 1))]) dX11_due_56 rfl rfl (by decide) rfl ?_
    refine e_goto (pc := 59) (tgt := 32) dX11_due_59 (by decide) ?_
    exact hv
set_option maxRecDepth 100000 in
set_option maxHeartbeats 4000000 in
theorem oX11_due (X : Cx) (A : Int64 → Wd → Prop) (a0 : Nat) (a1 : Int32) (w : Wd)
    (hv : wK w a0 = 12 ∧ Ct X bX11_isEntry mX11_isEntry [vR a0, vI a1] w (qI fun x2 w1 => ((¬ x2 = 0) → wK w1 a0 = 12 ∧ wK w1 (wR w1 11 5 a0) = 13 ∧ vp_in a1 (wL w1 (wR w1 11 5 a0)) ∧ Ct X bX11_dues mX11_dues [vR a0, vI (xI w1 (wR w1 11 5 a0) a1.toNatClampNeg)] w1 (qV fun w8 => wK w8 a0 = 12 ∧ Ct X bX11_leavesOf mX11_leavesOf [vR a0, vI a1] w8 (qV fun w10 => jX11_due_32 X A a0 0 0 w10))) ∧ ((x2 = 0) → A (-1) w1))) :
    Ct X bX11_due mX11_due [vR a0, vI a1] w (qJ A) := by
  refine Ct.of (lv := [(0, vR a0), (1, vI a1)]) rfl (Nat.le_of_ble_eq_true rfl) rfl ?_
  refine e_aload_n (pc := 0) (i := 0) dX11_due_0 rfl rfl ?_
  refine e_iload_n (pc := 1) (i := 1) dX11_due_1 rfl rfl ?_
  have k3 := hv.1
  replace hv := hv.2
  refine e_callVi (pc := 2) (ci := 11) (st := []) (rc' := 0) (rs' := 0) (B' := bX11_isEntry) [vI a1] dX11_due_2 vRX11_224 kX11_isEntry (by decide) rfl k3 rfl rfl (Nat.le_of_ble_eq_true rfl) ⟨Nat.le_of_ble_eq_true rfl, Nat.le_of_ble_eq_true rfl⟩ rfl rfl hv (fun x2 w1 hv => ?_)
  refine e_if_ne (pc := 5) (tgt := 12) dX11_due_5 (by decide) (fun h4 => ?_) (fun h4 => ?_)
  · replace hv := hv.1 h4
    refine e_aload_n (pc := 12) (i := 0) dX11_due_12 rfl rfl ?_
    refine e_aload_n (pc := 13) (i := 0) dX11_due_13 rfl rfl ?_
    have k5 := hv.1
    replace hv := hv.2
    refine e_getR (pc := 14) dX11_due_14 fRX11_23 rfl k5 ?_
    refine e_iload_n (pc := 17) (i := 1) dX11_due_17 rfl rfl ?_
    have k6 := hv.1
    replace hv := hv.2
    have hi7 := hv.1
    replace hv := hv.2
    refine e_iald (pc := 18) dX11_due_18 k6 hi7 ?_
    refine e_callVv (pc := 19) (ci := 11) (st := []) (rc' := 0) (rs' := 0) (B' := bX11_dues) [vI (xI w1 (wR w1 11 5 a0) a1.toNatClampNeg)] dX11_due_19 vRX11_229 kX11_dues (by decide) rfl k5 rfl rfl (Nat.le_of_ble_eq_true rfl) ⟨Nat.le_of_ble_eq_true rfl, Nat.le_of_ble_eq_true rfl⟩ rfl rfl hv (fun w8 hv => ?_)
    refine e_aload_n (pc := 22) (i := 0) dX11_due_22 rfl rfl ?_
    refine e_iload_n (pc := 23) (i := 1) dX11_due_23 rfl rfl ?_
    have k12 := hv.1
    replace hv := hv.2
    refine e_callVv (pc := 24) (ci := 11) (st := []) (rc' := 0) (rs' := 0) (B' := bX11_leavesOf) [vI a1] dX11_due_24 vRX11_206 kX11_leavesOf (by decide) rfl k12 rfl rfl (Nat.le_of_ble_eq_true rfl) ⟨Nat.le_of_ble_eq_true rfl, Nat.le_of_ble_eq_true rfl⟩ rfl rfl hv (fun w10 hv => ?_)
    refine e_lconst (pc := 27) (v := 0) dX11_due_27 (by decide) ?_
    refine e_lstore_n (pc := 28) (i := 2) (lv' := [(0, vR a0), (1, vI a1), (2, vJ 0)]) dX11_due_28 rfl (by decide) rfl ?_
    refine e_iconst (pc := 29) (v := 0) dX11_due_29 (by decide) ?_
    refine e_istore (pc := 30) (i := 4) (lv' := [(0, vR a0), (1, vI a1), (2, vJ 0), (4, vI 0)]) dX11_due_30 (by decide) rfl ?_
    exact EJ.drop [0, 2, 4] rfl hv
  · replace hv := hv.2 h4
    refine e_ldc2 (pc := 8) (v := -1) dX11_due_8 (tb_a5 119 (by decide +kernel) rfl) ?_
    exact e_lreturn (pc := 11) dX11_due_11 rfl ⟨_, rfl, hv⟩
set_option maxRecDepth 100000 in
set_option maxHeartbeats 4000000 in
theorem oX11_folio (X : Cx) (A : Int32 → Wd → Prop) (a0 : Nat) (a1 : Int32) (w : Wd)
    (hv : ((a1 < 1) → wK w a0 = 12 ∧ Ct X bX11_refuse mX11_refuse [vR a0, vI 5] w (qI fun x3 w2 => A x3 w2)) ∧ ((¬ a1 < 1) → ((a1 ≤ 60) → wK w a0 = 12 ∧ ((¬ (wI w 11 2 a0) = 40) → wK w (wR w 11 0 a0) = 13 ∧ vp_in (wI w 11 2 a0) (wL w (wR w 11 0 a0)) ∧ ∀ w10 : Wd, w10 = yI w (wR w 11 0 a0) (wI w 11 2 a0).toNatClampNeg a1 → ∀ w12 : Wd, w12 = sI w10 11 2 a0 ((wI w10 11 2 a0) + 1) → ∀ w14 : Wd, w14 = sI w12 11 41 a0 0 → A ((wI w14 11 2 a0) - 1) w14) ∧ (((wI w 11 2 a0) = 40) → Ct X bX11_refuse mX11_refuse [vR a0, vI 10] w (qI fun x17 w16 => A x17 w16))) ∧ ((¬ a1 ≤ 60) → wK w a0 = 12 ∧ Ct X bX11_refuse mX11_refuse [vR a0, vI 5] w (qI fun x19 w18 => A x19 w18)))) :
    Ct X bX11_folio mX11_folio [vR a0, vI a1] w (qI A) := by
  refine Ct.of (lv := [(0, vR a0), (1, vI a1)]) rfl (Nat.le_of_ble_eq_true rfl) rfl ?_
  refine e_iload_n (pc := 0) (i := 1) dX11_folio_0 rfl rfl ?_
  refine e_iconst (pc := 1) (v := 1) dX11_folio_1 (by decide) ?_
  refine e_icmp_lt (pc := 2) (tgt := 11) dX11_folio_2 (by decide) (fun h1 => ?_) (fun h1 => ?_)
  · replace hv := hv.1 h1
    refine e_aload_n (pc := 11) (i := 0) dX11_folio_11 rfl rfl ?_
    refine e_iconst (pc := 12) (v := 5) dX11_folio_12 (by decide) ?_
    have k4 := hv.1
    replace hv := hv.2
    refine e_callVi (pc := 13) (ci := 11) (st := []) (rc' := 0) (rs' := 0) (B' := bX11_refuse) [vI 5] dX11_folio_13 vRX11_231 kX11_refuse (by decide) rfl k4 rfl rfl (Nat.le_of_ble_eq_true rfl) ⟨Nat.le_of_ble_eq_true rfl, Nat.le_of_ble_eq_true rfl⟩ rfl rfl hv (fun x3 w2 hv => ?_)
    exact e_ireturn (pc := 16) dX11_folio_16 rfl ⟨_, rfl, hv⟩
  · replace hv := hv.2 h1
    refine e_iload_n (pc := 5) (i := 1) dX11_folio_5 rfl rfl ?_
    refine e_bipush (pc := 6) (v := 60) dX11_folio_6 (by decide) ?_
    refine e_icmp_le (pc := 8) (tgt := 17) dX11_folio_8 (by decide) (fun h5 => ?_) (fun h5 => ?_)
    · replace hv := hv.1 h5
      refine e_aload_n (pc := 17) (i := 0) dX11_folio_17 rfl rfl ?_
      have k6 := hv.1
      replace hv := hv.2
      refine e_getI (pc := 18) dX11_folio_18 fRX11_172 rfl k6 ?_
      refine e_bipush (pc := 21) (v := 40) dX11_folio_21 (by decide) ?_
      refine e_icmp_ne (pc := 23) (tgt := 33) dX11_folio_23 (by decide) (fun h7 => ?_) (fun h7 => ?_)
      · replace hv := hv.1 h7
        refine e_aload_n (pc := 33) (i := 0) dX11_folio_33 rfl rfl ?_
        refine e_getR (pc := 34) dX11_folio_34 fRX11_7 rfl k6 ?_
        refine e_aload_n (pc := 37) (i := 0) dX11_folio_37 rfl rfl ?_
        refine e_getI (pc := 38) dX11_folio_38 fRX11_172 rfl k6 ?_
        refine e_iload_n (pc := 41) (i := 1) dX11_folio_41 rfl rfl ?_
        have k8 := hv.1
        replace hv := hv.2
        have hi9 := hv.1
        replace hv := hv.2
        obtain ⟨w10, hw10⟩ : ∃ w10 : Wd, w10 = yI w (wR w 11 0 a0) (wI w 11 2 a0).toNatClampNeg a1 := ⟨_, rfl⟩
        replace hv := hv w10 hw10
        refine e_iast (pc := 42) dX11_folio_42 k8 hi9 ?_
        rw [← hw10]
        refine e_aload_n (pc := 43) (i := 0) dX11_folio_43 rfl rfl ?_
        refine e_dup (pc := 44) dX11_folio_44 rfl ?_
        have k11 : wK w10 a0 = 12 := (by rw [hw10]; exact k6)
        refine e_getI (pc := 45) dX11_folio_45 fRX11_172 rfl k11 ?_
        refine e_iconst (pc := 48) (v := 1) dX11_folio_48 (by decide) ?_
        refine e_iadd (pc := 49) dX11_folio_49 ?_
        obtain ⟨w12, hw12⟩ : ∃ w12 : Wd, w12 = sI w10 11 2 a0 ((wI w10 11 2 a0) + 1) := ⟨_, rfl⟩
        replace hv := hv w12 hw12
        refine e_putI (pc := 50) dX11_folio_50 fRX11_172 (Or.inl rfl) rfl k11 ?_
        rw [← hw12]
        refine e_aload_n (pc := 53) (i := 0) dX11_folio_53 rfl rfl ?_
        refine e_iconst (pc := 54) (v := 0) dX11_folio_54 (by decide) ?_
        have k13 : wK w12 a0 = 12 := (by rw [hw12]; exact k11)
        obtain ⟨w14, hw14⟩ : ∃ w14 : Wd, w14 = sI w12 11 41 a0 0 := ⟨_, rfl⟩
        replace hv := hv w14 hw14
        refine e_putI (pc := 55) dX11_folio_55 fRX11_163 (Or.inl rfl) rfl k13 ?_
        rw [← hw14]
        refine e_aload_n (pc := 58) (i := 0) dX11_folio_58 rfl rfl ?_
        have k15 : wK w14 a0 = 12 := (by rw [hw14]; exact k13)
        refine e_getI (pc := 59) dX11_folio_59 fRX11_172 rfl k15 ?_
        refine e_iconst (pc := 62) (v := 1) dX11_folio_62 (by decide) ?_
        refine e_isub (pc := 63) dX11_folio_63 ?_
        exact e_ireturn (pc := 64) dX11_folio_64 rfl ⟨_, rfl, hv⟩
      · replace hv := hv.2 h7
        refine e_aload_n (pc := 26) (i := 0) dX11_folio_26 rfl rfl ?_
        refine e_bipush (pc := 27) (v := 10) dX11_folio_27 (by decide) ?_
        refine e_callVi (pc := 29) (ci := 11) (st := []) (rc' := 0) (rs' := 0) (B' := bX11_refuse) [vI 10] dX11_folio_29 vRX11_231 kX11_refuse (by decide) rfl k6 rfl rfl (Nat.le_of_ble_eq_true rfl) ⟨Nat.le_of_ble_eq_true rfl, Nat.le_of_ble_eq_true rfl⟩ rfl rfl hv (fun x17 w16 hv => ?_)
        exact e_ireturn (pc := 32) dX11_folio_32 rfl ⟨_, rfl, hv⟩
    · replace hv := hv.2 h5
      refine e_aload_n (pc := 11) (i := 0) dX11_folio_11 rfl rfl ?_
      refine e_iconst (pc := 12) (v := 5) dX11_folio_12 (by decide) ?_
      have k20 := hv.1
      replace hv := hv.2
      refine e_callVi (pc := 13) (ci := 11) (st := []) (rc' := 0) (rs' := 0) (B' := bX11_refuse) [vI 5] dX11_folio_13 vRX11_231 kX11_refuse (by decide) rfl k20 rfl rfl (Nat.le_of_ble_eq_true rfl) ⟨Nat.le_of_ble_eq_true rfl, Nat.le_of_ble_eq_true rfl⟩ rfl rfl hv (fun x19 w18 hv => ?_)
      exact e_ireturn (pc := 16) dX11_folio_16 rfl ⟨_, rfl, hv⟩
set_option maxRecDepth 100000 in
set_option maxHeartbeats 4000000 in
theorem oX11_tear (X : Cx) (A : Int32 → Wd → Prop) (a0 : Nat) (a1 : Int32) (a2 : Int32) (w : Wd)
    (hv : wK w a0 = 12 ∧ Ct X bX11_wrong mX11_wrong [vR a0, vI a1, vI a2] w (qI fun x2 w1 => ((x2 ≤ 0) → wK w1 a0 = 12 ∧ wK w1 (wR w1 11 1 a0) = 15 ∧ vp_in ((60 * a1) + a2) (wL w1 (wR w1 11 1 a0)) ∧ ∀ w8 : Wd, w8 = yI w1 (wR w1 11 1 a0) ((60 * a1) + a2).toNatClampNeg (vp_nar .boolean 1) → ∀ w10 : Wd, w10 = sI w8 11 41 a0 0 → A 1 w10) ∧ ((¬ x2 ≤ 0) → wK w1 a0 = 12 ∧ Ct X bX11_no mX11_no [vR a0, vI x2] w1 (qI fun x12 w11 => (x12 = 0 ∨ x12 = 1) ∧ A x12 w11)))) :
    Ct X bX11_tear mX11_tear [vR a0, vI a1, vI a2] w (qI A) := by
  refine Ct.of (lv := [(0, vR a0), (1, vI a1), (2, vI a2)]) rfl (Nat.le_of_ble_eq_true rfl) rfl ?_
  refine e_aload_n (pc := 0) (i := 0) dX11_tear_0 rfl rfl ?_
  refine e_iload_n (pc := 1) (i := 1) dX11_tear_1 rfl rfl ?_
  refine e_iload_n (pc := 2) (i := 2) dX11_tear_2 rfl rfl ?_
  have k3 := hv.1
  replace hv := hv.2
  refine e_callVi (pc := 3) (ci := 11) (st := []) (rc' := 0) (rs' := 0) (B' := bX11_wrong) [vI a1, vI a2] dX11_tear_3 vRX11_235 kX11_wrong (by decide) rfl k3 rfl rfl (Nat.le_of_ble_eq_true rfl) ⟨Nat.le_of_ble_eq_true rfl, Nat.le_of_ble_eq_true rfl⟩ rfl rfl hv (fun x2 w1 hv => ?_)
  refine e_istore_n (pc := 6) (i := 3) (lv' := [(0, vR a0), (1, vI a1), (2, vI a2), (3, vI x2)]) dX11_tear_6 rfl (by decide) rfl ?_
  refine e_iload_n (pc := 7) (i := 3) dX11_tear_7 rfl rfl ?_
  refine e_if_le (pc := 8) (tgt := 17) dX11_tear_8 (by decide) (fun h4 => ?_) (fun h4 => ?_)
  · replace hv := hv.1 h4
    refine e_aload_n (pc := 17) (i := 0) dX11_tear_17 rfl rfl ?_
    have k5 := hv.1
    replace hv := hv.2
    refine e_getR (pc := 18) dX11_tear_18 fRX11_13 rfl k5 ?_
    refine e_bipush (pc := 21) (v := 60) dX11_tear_21 (by decide) ?_
    refine e_iload_n (pc := 23) (i := 1) dX11_tear_23 rfl rfl ?_
    refine e_imul (pc := 24) dX11_tear_24 ?_
    refine e_iload_n (pc := 25) (i := 2) dX11_tear_25 rfl rfl ?_
    refine e_iadd (pc := 26) dX11_tear_26 ?_
    refine e_iconst (pc := 27) (v := 1) dX11_tear_27 (by decide) ?_
    have k6 := hv.1
    replace hv := hv.2
    have hi7 := hv.1
    replace hv := hv.2
    obtain ⟨w8, hw8⟩ : ∃ w8 : Wd, w8 = yI w1 (wR w1 11 1 a0) ((60 * a1) + a2).toNatClampNeg (vp_nar .boolean 1) := ⟨_, rfl⟩
    replace hv := hv w8 hw8
    refine e_zast (pc := 28) dX11_tear_28 k6 hi7 ?_
    rw [← hw8]
    refine e_aload_n (pc := 29) (i := 0) dX11_tear_29 rfl rfl ?_
    refine e_iconst (pc := 30) (v := 0) dX11_tear_30 (by decide) ?_
    have k9 : wK w8 a0 = 12 := (by rw [hw8]; exact k5)
    obtain ⟨w10, hw10⟩ : ∃ w10 : Wd, w10 = sI w8 11 41 a0 0 := ⟨_, rfl⟩
    replace hv := hv w10 hw10
    refine e_putI (pc := 31) dX11_tear_31 fRX11_163 (Or.inl rfl) rfl k9 ?_
    rw [← hw10]
    refine e_iconst (pc := 34) (v := 1) dX11_tear_34 (by decide) ?_
    exact e_zreturn (pc := 35) dX11_tear_35 rfl (Or.inr rfl) ⟨_, rfl, hv⟩
  · replace hv := hv.2 h4
    refine e_aload_n (pc := 11) (i := 0) dX11_tear_11 rfl rfl ?_
    refine e_iload_n (pc := 12) (i := 3) dX11_tear_12 rfl rfl ?_
    have k13 := hv.1
    replace hv := hv.2
    refine e_callVi (pc := 13) (ci := 11) (st := []) (rc' := 0) (rs' := 0) (B' := bX11_no) [vI x2] dX11_tear_13 vRX11_238 kX11_no (by decide) rfl k13 rfl rfl (Nat.le_of_ble_eq_true rfl) ⟨Nat.le_of_ble_eq_true rfl, Nat.le_of_ble_eq_true rfl⟩ rfl rfl hv (fun x12 w11 hv => ?_)
    exact e_zreturn (pc := 16) dX11_tear_16 rfl hv.1 ⟨_, rfl, hv.2⟩
set_option maxRecDepth 100000 in
set_option maxHeartbeats 4000000 in
theorem oX11_day (X : Cx) (A : Int32 → Wd → Prop) (a0 : Nat) (a1 : Int32) (w : Wd)
    (hv : ((a1 ≤ 36500) → wK w a0 = 12 ∧ (((wI w 11 39 a0) ≤ a1) → ∀ w4 : Wd, w4 = sI w 11 39 a0 a1 → ∀ w6 : Wd, w6 = sI w4 11 40 a0 (-1) → ∀ w8 : Wd, w8 = sI w6 11 41 a0 0 → A 1 w8) ∧ ((¬ (wI w 11 39 a0) ≤ a1) → Ct X bX11_no mX11_no [vR a0, vI 8] w (qI fun x10 w9 => (x10 = 0 ∨ x10 = 1) ∧ A x10 w9))) ∧ ((¬ a1 ≤ 36500) → wK w a0 = 12 ∧ Ct X bX11_no mX11_no [vR a0, vI 5] w (qI fun x12 w11 => (x12 = 0 ∨ x12 = 1) ∧ A x12 w11))) :
    Ct X bX11_day mX11_day [vR a0, vI a1] w (qI A) := by
  refine Ct.of (lv := [(0, vR a0), (1, vI a1)]) rfl (Nat.le_of_ble_eq_true rfl) rfl ?_
  refine e_iload_n (pc := 0) (i := 1) dX11_day_0 rfl rfl ?_
  refine e_ldc (pc := 1) (v := 36500) dX11_day_1 (tb_a5 163 (by decide +kernel) rfl) ?_
  refine e_icmp_le (pc := 3) (tgt := 12) dX11_day_3 (by decide) (fun h1 => ?_) (fun h1 => ?_)
  · replace hv := hv.1 h1
    refine e_iload_n (pc := 12) (i := 1) dX11_day_12 rfl rfl ?_
    refine e_aload_n (pc := 13) (i := 0) dX11_day_13 rfl rfl ?_
    have k2 := hv.1
    replace hv := hv.2
    refine e_getI (pc := 14) dX11_day_14 fRX11_166 rfl k2 ?_
    refine e_icmp_ge (pc := 17) (tgt := 27) dX11_day_17 (by decide) (fun h3 => ?_) (fun h3 => ?_)
    · replace hv := hv.1 h3
      refine e_aload_n (pc := 27) (i := 0) dX11_day_27 rfl rfl ?_
      refine e_iload_n (pc := 28) (i := 1) dX11_day_28 rfl rfl ?_
      obtain ⟨w4, hw4⟩ : ∃ w4 : Wd, w4 = sI w 11 39 a0 a1 := ⟨_, rfl⟩
      replace hv := hv w4 hw4
      refine e_putI (pc := 29) dX11_day_29 fRX11_166 (Or.inl rfl) rfl k2 ?_
      rw [← hw4]
      refine e_aload_n (pc := 32) (i := 0) dX11_day_32 rfl rfl ?_
      refine e_iconst (pc := 33) (v := (-1)) dX11_day_33 (by decide) ?_
      have k5 : wK w4 a0 = 12 := (by rw [hw4]; exact k2)
      obtain ⟨w6, hw6⟩ : ∃ w6 : Wd, w6 = sI w4 11 40 a0 (-1) := ⟨_, rfl⟩
      replace hv := hv w6 hw6
      refine e_putI (pc := 34) dX11_day_34 fRX11_120 (Or.inl rfl) rfl k5 ?_
      rw [← hw6]
      refine e_aload_n (pc := 37) (i := 0) dX11_day_37 rfl rfl ?_
      refine e_iconst (pc := 38) (v := 0) dX11_day_38 (by decide) ?_
      have k7 : wK w6 a0 = 12 := (by rw [hw6]; exact k5)
      obtain ⟨w8, hw8⟩ : ∃ w8 : Wd, w8 = sI w6 11 41 a0 0 := ⟨_, rfl⟩
      replace hv := hv w8 hw8
      refine e_putI (pc := 39) dX11_day_39 fRX11_163 (Or.inl rfl) rfl k7 ?_
      rw [← hw8]
      refine e_iconst (pc := 42) (v := 1) dX11_day_42 (by decide) ?_
      exact e_zreturn (pc := 43) dX11_day_43 rfl (Or.inr rfl) ⟨_, rfl, hv⟩
    · replace hv := hv.2 h3
      refine e_aload_n (pc := 20) (i := 0) dX11_day_20 rfl rfl ?_
      refine e_bipush (pc := 21) (v := 8) dX11_day_21 (by decide) ?_
      refine e_callVi (pc := 23) (ci := 11) (st := []) (rc' := 0) (rs' := 0) (B' := bX11_no) [vI 8] dX11_day_23 vRX11_238 kX11_no (by decide) rfl k2 rfl rfl (Nat.le_of_ble_eq_true rfl) ⟨Nat.le_of_ble_eq_true rfl, Nat.le_of_ble_eq_true rfl⟩ rfl rfl hv (fun x10 w9 hv => ?_)
      exact e_zreturn (pc := 26) dX11_day_26 rfl hv.1 ⟨_, rfl, hv.2⟩
  · replace hv := hv.2 h1
    refine e_aload_n (pc := 6) (i := 0) dX11_day_6 rfl rfl ?_
    refine e_iconst (pc := 7) (v := 5) dX11_day_7 (by decide) ?_
    have k13 := hv.1
    replace hv := hv.2
    refine e_callVi (pc := 8) (ci := 11) (st := []) (rc' := 0) (rs' := 0) (B' := bX11_no) [vI 5] dX11_day_8 vRX11_238 kX11_no (by decide) rfl k13 rfl rfl (Nat.le_of_ble_eq_true rfl) ⟨Nat.le_of_ble_eq_true rfl, Nat.le_of_ble_eq_true rfl⟩ rfl rfl hv (fun x12 w11 hv => ?_)
    exact e_zreturn (pc := 11) dX11_day_11 rfl hv.1 ⟨_, rfl, hv.2⟩
set_option maxRecDepth 100000 in
set_option maxHeartbeats 4000000 in
theorem oX11_since (X : Cx) (A : Int32 → Wd → Prop) (a0 : Nat) (a1 : Int32) (w : Wd)
    (hv : ((a1 < 0) → wK w a0 = 12 ∧ Ct X bX11_no mX11_no [vR a0, vI 5] w (qI fun x3 w2 => (x3 = 0 ∨ x3 = 1) ∧ A x3 w2)) ∧ ((¬ a1 < 0) → wK w a0 = 12 ∧ ((a1 ≤ (wI w 11 39 a0)) → ∀ w7 : Wd, w7 = sI w 11 40 a0 a1 → ∀ w9 : Wd, w9 = sI w7 11 41 a0 0 → A 1 w9) ∧ ((¬ a1 ≤ (wI w 11 39 a0)) → Ct X bX11_no mX11_no [vR a0, vI 5] w (qI fun x11 w10 => (x11 = 0 ∨ x11 = 1) ∧ A x11 w10)))) :
    Ct X bX11_since mX11_since [vR a0, vI a1] w (qI A) := by
  refine Ct.of (lv := [(0, vR a0), (1, vI a1)]) rfl (Nat.le_of_ble_eq_true rfl) rfl ?_
  refine e_iload_n (pc := 0) (i := 1) dX11_since_0 rfl rfl ?_
  refine e_if_lt (pc := 1) (tgt := 12) dX11_since_1 (by decide) (fun h1 => ?_) (fun h1 => ?_)
  · replace hv := hv.1 h1
    refine e_aload_n (pc := 12) (i := 0) dX11_since_12 rfl rfl ?_
    refine e_iconst (pc := 13) (v := 5) dX11_since_13 (by decide) ?_
    have k4 := hv.1
    replace hv := hv.2
    refine e_callVi (pc := 14) (ci := 11) (st := []) (rc' := 0) (rs' := 0) (B' := bX11_no) [vI 5] dX11_since_14 vRX11_238 kX11_no (by decide) rfl k4 rfl rfl (Nat.le_of_ble_eq_true rfl) ⟨Nat.le_of_ble_eq_true rfl, Nat.le_of_ble_eq_true rfl⟩ rfl rfl hv (fun x3 w2 hv => ?_)
    exact e_zreturn (pc := 17) dX11_since_17 rfl hv.1 ⟨_, rfl, hv.2⟩
  · replace hv := hv.2 h1
    refine e_iload_n (pc := 4) (i := 1) dX11_since_4 rfl rfl ?_
    refine e_aload_n (pc := 5) (i := 0) dX11_since_5 rfl rfl ?_
    have k5 := hv.1
    replace hv := hv.2
    refine e_getI (pc := 6) dX11_since_6 fRX11_166 rfl k5 ?_
    refine e_icmp_le (pc := 9) (tgt := 18) dX11_since_9 (by decide) (fun h6 => ?_) (fun h6 => ?_)
    · replace hv := hv.1 h6
      refine e_aload_n (pc := 18) (i := 0) dX11_since_18 rfl rfl ?_
      refine e_iload_n (pc := 19) (i := 1) dX11_since_19 rfl rfl ?_
      obtain ⟨w7, hw7⟩ : ∃ w7 : Wd, w7 = sI w 11 40 a0 a1 := ⟨_, rfl⟩
      replace hv := hv w7 hw7
      refine e_putI (pc := 20) dX11_since_20 fRX11_120 (Or.inl rfl) rfl k5 ?_
      rw [← hw7]
      refine e_aload_n (pc := 23) (i := 0) dX11_since_23 rfl rfl ?_
      refine e_iconst (pc := 24) (v := 0) dX11_since_24 (by decide) ?_
      have k8 : wK w7 a0 = 12 := (by rw [hw7]; exact k5)
      obtain ⟨w9, hw9⟩ : ∃ w9 : Wd, w9 = sI w7 11 41 a0 0 := ⟨_, rfl⟩
      replace hv := hv w9 hw9
      refine e_putI (pc := 25) dX11_since_25 fRX11_163 (Or.inl rfl) rfl k8 ?_
      rw [← hw9]
      refine e_iconst (pc := 28) (v := 1) dX11_since_28 (by decide) ?_
      exact e_zreturn (pc := 29) dX11_since_29 rfl (Or.inr rfl) ⟨_, rfl, hv⟩
    · replace hv := hv.2 h6
      refine e_aload_n (pc := 12) (i := 0) dX11_since_12 rfl rfl ?_
      refine e_iconst (pc := 13) (v := 5) dX11_since_13 (by decide) ?_
      refine e_callVi (pc := 14) (ci := 11) (st := []) (rc' := 0) (rs' := 0) (B' := bX11_no) [vI 5] dX11_since_14 vRX11_238 kX11_no (by decide) rfl k5 rfl rfl (Nat.le_of_ble_eq_true rfl) ⟨Nat.le_of_ble_eq_true rfl, Nat.le_of_ble_eq_true rfl⟩ rfl rfl hv (fun x11 w10 hv => ?_)
      exact e_zreturn (pc := 17) dX11_since_17 rfl hv.1 ⟨_, rfl, hv.2⟩
abbrev jX11_make_48 (X : Cx) (A : Int32 → Wd → Prop) (l0 : Nat) (l4 : Int32) (l5 : Int32) (l6 : Int64) (l8 : Int32) (s0 : Int32) (s1 : Int32) (s2 : Nat) (w : Wd) : Prop := EJ X mX11_make (vw X bX11_make (qI A)) 0 0 48 [(0, vR l0), (4, vI l4), (5, vI l5), (6, vJ l6), (8, vI l8)] [vI s0, vI s1, vR s2] w
abbrev jX11_make_111 (X : Cx) (A : Int32 → Wd → Prop) (l0 : Nat) (l8 : Int32) (l9 : Int32) (w : Wd) : Prop := EJ X mX11_make (vw X bX11_make (qI A)) 0 0 111 [(0, vR l0), (8, vI l8), (9, vI l9)] [] w
set_option maxRecDepth 100000 in
set_option maxHeartbeats 4000000 in
theorem tX11_make_111 (X : Cx) (A : Int32 → Wd → Prop) (l0 : Nat) (l8 : Int32) (l9 : Int32) (w : Wd)
    (hv : ((60 ≤ l9) → A l8 w) ∧ ((¬ 60 ≤ l9) → wK w l0 = 12 ∧ wK w (wR w 11 29 l0) = 13 ∧ vp_in ((60 * l8) + l9) (wL w (wR w 11 29 l0)) ∧ ∀ w5 : Wd, w5 = yI w (wR w 11 29 l0) ((60 * l8) + l9).toNatClampNeg (-1) → jX11_make_111 X A l0 l8 (l9 + 1) w5)) :
    jX11_make_111 X A l0 l8 l9 w := by
  refine e_iload (pc := 111) (i := 9) dX11_make_111 rfl ?_
  refine e_bipush (pc := 113) (v := 60) dX11_make_113 (by decide) ?_
  refine e_icmp_ge (pc := 115) (tgt := 138) dX11_make_115 (by decide) (fun h1 => ?_) (fun h1 => ?_)
  · replace hv := hv.1 h1
    refine e_iload (pc := 138) (i := 8) dX11_make_138 rfl ?_
    exact e_ireturn (pc := 140) dX11_make_140 rfl ⟨_, rfl, hv⟩
  · replace hv := hv.2 h1
    refine e_aload_n (pc := 118) (i := 0) dX11_make_118 rfl rfl ?_
    have k2 := hv.1
    replace hv := hv.2
    refine e_getR (pc := 119) dX11_make_119 fRX11_96 rfl k2 ?_
    refine e_bipush (pc := 122) (v := 60) dX11_make_122 (by decide) ?_
    refine e_iload (pc := 124) (i := 8) dX11_make_124 rfl ?_
    refine e_imul (pc := 126) dX11_make_126 ?_
    refine e_iload (pc := 127) (i := 9) dX11_make_127 rfl ?_
    refine e_iadd (pc := 129) dX11_make_129 ?_
    refine e_iconst (pc := 130) (v := (-1)) dX11_make_130 (by decide) ?_
    have k3 := hv.1
    replace hv := hv.2
    have hi4 := hv.1
    replace hv := hv.2
    obtain ⟨w5, hw5⟩ : ∃ w5 : Wd, w5 = yI w (wR w 11 29 l0) ((60 * l8) + l9).toNatClampNeg (-1) := ⟨_, rfl⟩
    replace hv := hv w5 hw5
    refine e_iast (pc := 131) dX11_make_131 k3 hi4 ?_
    rw [← hw5]
    refine e_iinc (pc := 132) (v := l9 + 1) (lv' := [(0, vR l0), (8, vI l8), (9, vI (l9 + 1))]) dX11_make_132 rfl rfl (by decide) rfl ?_
    refine e_goto (pc := 135) (tgt := 111) dX11_make_135 (by decide) ?_
    exact hv
set_option maxRecDepth 100000 in
set_option maxHeartbeats 4000000 in
theorem tX11_make_48 (X : Cx) (A : Int32 → Wd → Prop) (l0 : Nat) (l4 : Int32) (l5 : Int32) (l6 : Int64) (l8 : Int32) (s0 : Int32) (s1 : Int32) (s2 : Nat) (w : Wd)
    (hv : wK w s2 = 13 ∧ vp_in s1 (wL w s2) ∧ ∀ w3 : Wd, w3 = yI w s2 s1.toNatClampNeg s0 → wK w3 l0 = 12 ∧ wK w3 (wR w3 11 6 l0) = 13 ∧ vp_in l8 (wL w3 (wR w3 11 6 l0)) ∧ ∀ w7 : Wd, w7 = yI w3 (wR w3 11 6 l0) l8.toNatClampNeg l4 → wK w7 (wR w7 11 7 l0) = 13 ∧ vp_in l8 (wL w7 (wR w7 11 7 l0)) ∧ ∀ w11 : Wd, w11 = yI w7 (wR w7 11 7 l0) l8.toNatClampNeg l5 → wK w11 (wR w11 11 8 l0) = 14 ∧ vp_in l8 (wL w11 (wR w11 11 8 l0)) ∧ ∀ w15 : Wd, w15 = yJ w11 (wR w11 11 8 l0) l8.toNatClampNeg l6 → wK w15 (wR w15 11 9 l0) = 13 ∧ vp_in l8 (wL w15 (wR w15 11 9 l0)) ∧ ∀ w19 : Wd, w19 = yI w15 (wR w15 11 9 l0) l8.toNatClampNeg 0 → wK w19 (wR w19 11 16 l0) = 13 ∧ vp_in l8 (wL w19 (wR w19 11 16 l0)) ∧ ∀ w23 : Wd, w23 = yI w19 (wR w19 11 16 l0) l8.toNatClampNeg (-1) → wK w23 (wR w23 11 23 l0) = 13 ∧ vp_in l8 (wL w23 (wR w23 11 23 l0)) ∧ ∀ w27 : Wd, w27 = yI w23 (wR w23 11 23 l0) l8.toNatClampNeg (-1) → wK w27 (wR w27 11 27 l0) = 13 ∧ vp_in l8 (wL w27 (wR w27 11 27 l0)) ∧ ∀ w31 : Wd, w31 = yI w27 (wR w27 11 27 l0) l8.toNatClampNeg (-1) → jX11_make_111 X A l0 l8 0 w31) :
    jX11_make_48 X A l0 l4 l5 l6 l8 s0 s1 s2 w := by
  have k1 := hv.1
  replace hv := hv.2
  have hi2 := hv.1
  replace hv := hv.2
  obtain ⟨w3, hw3⟩ : ∃ w3 : Wd, w3 = yI w s2 s1.toNatClampNeg s0 := ⟨_, rfl⟩
  replace hv := hv w3 hw3
  refine e_iast (pc := 48) dX11_make_48 k1 hi2 ?_
  rw [← hw3]
  refine e_aload_n (pc := 49) (i := 0) dX11_make_49 rfl rfl ?_
  have k4 := hv.1
  replace hv := hv.2
  refine e_getR (pc := 50) dX11_make_50 fRX11_26 rfl k4 ?_
  refine e_iload (pc := 53) (i := 8) dX11_make_53 rfl ?_
  refine e_iload (pc := 55) (i := 4) dX11_make_55 rfl ?_
  have k5 := hv.1
  replace hv := hv.2
  have hi6 := hv.1
  replace hv := hv.2
  obtain ⟨w7, hw7⟩ : ∃ w7 : Wd, w7 = yI w3 (wR w3 11 6 l0) l8.toNatClampNeg l4 := ⟨_, rfl⟩
  replace hv := hv w7 hw7
  refine e_iast (pc := 57) dX11_make_57 k5 hi6 ?_
  rw [← hw7]
  refine e_aload_n (pc := 58) (i := 0) dX11_make_58 rfl rfl ?_
  have k8 : wK w7 l0 = 12 := (by rw [hw7]; exact k4)
  refine e_getR (pc := 59) dX11_make_59 fRX11_29 rfl k8 ?_
  refine e_iload (pc := 62) (i := 8) dX11_make_62 rfl ?_
  refine e_iload (pc := 64) (i := 5) dX11_make_64 rfl ?_
  have k9 := hv.1
  replace hv := hv.2
  have hi10 := hv.1
  replace hv := hv.2
  obtain ⟨w11, hw11⟩ : ∃ w11 : Wd, w11 = yI w7 (wR w7 11 7 l0) l8.toNatClampNeg l5 := ⟨_, rfl⟩
  replace hv := hv w11 hw11
  refine e_iast (pc := 66) dX11_make_66 k9 hi10 ?_
  rw [← hw11]
  refine e_aload_n (pc := 67) (i := 0) dX11_make_67 rfl rfl ?_
  have k12 : wK w11 l0 = 12 := (by rw [hw11]; exact k8)
  refine e_getR (pc := 68) dX11_make_68 fRX11_32 rfl k12 ?_
  refine e_iload (pc := 71) (i := 8) dX11_make_71 rfl ?_
  refine e_lload (pc := 73) (i := 6) dX11_make_73 rfl ?_
  have k13 := hv.1
  replace hv := hv.2
  have hi14 := hv.1
  replace hv := hv.2
  obtain ⟨w15, hw15⟩ : ∃ w15 : Wd, w15 = yJ w11 (wR w11 11 8 l0) l8.toNatClampNeg l6 := ⟨_, rfl⟩
  replace hv := hv w15 hw15
  refine e_last (pc := 75) dX11_make_75 k13 hi14 ?_
  rw [← hw15]
  refine e_aload_n (pc := 76) (i := 0) dX11_make_76 rfl rfl ?_
  have k16 : wK w15 l0 = 12 := (by rw [hw15]; exact k12)
  refine e_getR (pc := 77) dX11_make_77 fRX11_36 rfl k16 ?_
  refine e_iload (pc := 80) (i := 8) dX11_make_80 rfl ?_
  refine e_iconst (pc := 82) (v := 0) dX11_make_82 (by decide) ?_
  have k17 := hv.1
  replace hv := hv.2
  have hi18 := hv.1
  replace hv := hv.2
  obtain ⟨w19, hw19⟩ : ∃ w19 : Wd, w19 = yI w15 (wR w15 11 9 l0) l8.toNatClampNeg 0 := ⟨_, rfl⟩
  replace hv := hv w19 hw19
  refine e_iast (pc := 83) dX11_make_83 k17 hi18 ?_
  rw [← hw19]
  refine e_aload_n (pc := 84) (i := 0) dX11_make_84 rfl rfl ?_
  have k20 : wK w19 l0 = 12 := (by rw [hw19]; exact k16)
  refine e_getR (pc := 85) dX11_make_85 fRX11_57 rfl k20 ?_
  refine e_iload (pc := 88) (i := 8) dX11_make_88 rfl ?_
  refine e_iconst (pc := 90) (v := (-1)) dX11_make_90 (by decide) ?_
  have k21 := hv.1
  replace hv := hv.2
  have hi22 := hv.1
  replace hv := hv.2
  obtain ⟨w23, hw23⟩ : ∃ w23 : Wd, w23 = yI w19 (wR w19 11 16 l0) l8.toNatClampNeg (-1) := ⟨_, rfl⟩
  replace hv := hv w23 hw23
  refine e_iast (pc := 91) dX11_make_91 k21 hi22 ?_
  rw [← hw23]
  refine e_aload_n (pc := 92) (i := 0) dX11_make_92 rfl rfl ?_
  have k24 : wK w23 l0 = 12 := (by rw [hw23]; exact k20)
  refine e_getR (pc := 93) dX11_make_93 fRX11_78 rfl k24 ?_
  refine e_iload (pc := 96) (i := 8) dX11_make_96 rfl ?_
  refine e_iconst (pc := 98) (v := (-1)) dX11_make_98 (by decide) ?_
  have k25 := hv.1
  replace hv := hv.2
  have hi26 := hv.1
  replace hv := hv.2
  obtain ⟨w27, hw27⟩ : ∃ w27 : Wd, w27 = yI w23 (wR w23 11 23 l0) l8.toNatClampNeg (-1) := ⟨_, rfl⟩
  replace hv := hv w27 hw27
  refine e_iast (pc := 99) dX11_make_99 k25 hi26 ?_
  rw [← hw27]
  refine e_aload_n (pc := 100) (i := 0) dX11_make_100 rfl rfl ?_
  have k28 : wK w27 l0 = 12 := (by rw [hw27]; exact k24)
  refine e_getR (pc := 101) dX11_make_101 fRX11_90 rfl k28 ?_
  refine e_iload (pc := 104) (i := 8) dX11_make_104 rfl ?_
  refine e_iconst (pc := 106) (v := (-1)) dX11_make_106 (by decide) ?_
  have k29 := hv.1
  replace hv := hv.2
  have hi30 := hv.1
  replace hv := hv.2
  obtain ⟨w31, hw31⟩ : ∃ w31 : Wd, w31 = yI w27 (wR w27 11 27 l0) l8.toNatClampNeg (-1) := ⟨_, rfl⟩
  replace hv := hv w31 hw31
  refine e_iast (pc := 107) dX11_make_107 k29 hi30 ?_
  rw [← hw31]
  refine e_iconst (pc := 108) (v := 0) dX11_make_108 (by decide) ?_
  refine e_istore (pc := 109) (i := 9) (lv' := [(0, vR l0), (4, vI l4), (5, vI l5), (6, vJ l6), (8, vI l8), (9, vI 0)]) dX11_make_109 (by decide) rfl ?_
  exact EJ.drop [0, 8, 9] rfl hv
set_option maxRecDepth 100000 in
set_option maxHeartbeats 4000000 in
theorem oX11_make (X : Cx) (A : Int32 → Wd → Prop) (a0 : Nat) (a1 : Int32) (a2 : Int32) (a3 : Int32) (a4 : Int32) (a5 : Int32) (a6 : Int64) (w : Wd)
    (hv : wK w a0 = 12 ∧ ∀ w2 : Wd, w2 = sI w 11 30 a0 ((wI w 11 30 a0) + 1) → wK w2 (wR w2 11 3 a0) = 13 ∧ vp_in (wI w2 11 30 a0) (wL w2 (wR w2 11 3 a0)) ∧ ∀ w6 : Wd, w6 = yI w2 (wR w2 11 3 a0) (wI w2 11 30 a0).toNatClampNeg a2 → wK w6 (wR w6 11 4 a0) = 13 ∧ vp_in (wI w2 11 30 a0) (wL w6 (wR w6 11 4 a0)) ∧ ∀ w10 : Wd, w10 = yI w6 (wR w6 11 4 a0) (wI w2 11 30 a0).toNatClampNeg a1 → ((¬ a3 = 0) → jX11_make_48 X A a0 a4 a5 a6 (wI w2 11 30 a0) a3 (wI w2 11 30 a0) (wR w10 11 5 a0) w10) ∧ ((a3 = 0) → jX11_make_48 X A a0 a4 a5 a6 (wI w2 11 30 a0) (wI w2 11 30 a0) (wI w2 11 30 a0) (wR w10 11 5 a0) w10)) :
    Ct X bX11_make mX11_make [vR a0, vI a1, vI a2, vI a3, vI a4, vI a5, vJ a6] w (qI A) := by
  refine Ct.of (lv := [(0, vR a0), (1, vI a1), (2, vI a2), (3, vI a3), (4, vI a4), (5, vI a5), (6, vJ a6)]) rfl (Nat.le_of_ble_eq_true rfl) rfl ?_
  refine e_aload_n (pc := 0) (i := 0) dX11_make_0 rfl rfl ?_
  refine e_dup (pc := 1) dX11_make_1 rfl ?_
  have k1 := hv.1
  replace hv := hv.2
  refine e_getI (pc := 2) dX11_make_2 fRX11_169 rfl k1 ?_
  refine e_iconst (pc := 5) (v := 1) dX11_make_5 (by decide) ?_
  refine e_iadd (pc := 6) dX11_make_6 ?_
  obtain ⟨w2, hw2⟩ : ∃ w2 : Wd, w2 = sI w 11 30 a0 ((wI w 11 30 a0) + 1) := ⟨_, rfl⟩
  replace hv := hv w2 hw2
  refine e_putI (pc := 7) dX11_make_7 fRX11_169 (Or.inl rfl) rfl k1 ?_
  rw [← hw2]
  refine e_aload_n (pc := 10) (i := 0) dX11_make_10 rfl rfl ?_
  have k3 : wK w2 a0 = 12 := (by rw [hw2]; exact k1)
  refine e_getI (pc := 11) dX11_make_11 fRX11_169 rfl k3 ?_
  refine e_istore (pc := 14) (i := 8) (lv' := [(0, vR a0), (1, vI a1), (2, vI a2), (3, vI a3), (4, vI a4), (5, vI a5), (6, vJ a6), (8, vI (wI w2 11 30 a0))]) dX11_make_14 (by decide) rfl ?_
  refine e_aload_n (pc := 16) (i := 0) dX11_make_16 rfl rfl ?_
  refine e_getR (pc := 17) dX11_make_17 fRX11_17 rfl k3 ?_
  refine e_iload (pc := 20) (i := 8) dX11_make_20 rfl ?_
  refine e_iload_n (pc := 22) (i := 2) dX11_make_22 rfl rfl ?_
  have k4 := hv.1
  replace hv := hv.2
  have hi5 := hv.1
  replace hv := hv.2
  obtain ⟨w6, hw6⟩ : ∃ w6 : Wd, w6 = yI w2 (wR w2 11 3 a0) (wI w2 11 30 a0).toNatClampNeg a2 := ⟨_, rfl⟩
  replace hv := hv w6 hw6
  refine e_iast (pc := 23) dX11_make_23 k4 hi5 ?_
  rw [← hw6]
  refine e_aload_n (pc := 24) (i := 0) dX11_make_24 rfl rfl ?_
  have k7 : wK w6 a0 = 12 := (by rw [hw6]; exact k3)
  refine e_getR (pc := 25) dX11_make_25 fRX11_20 rfl k7 ?_
  refine e_iload (pc := 28) (i := 8) dX11_make_28 rfl ?_
  refine e_iload_n (pc := 30) (i := 1) dX11_make_30 rfl rfl ?_
  have k8 := hv.1
  replace hv := hv.2
  have hi9 := hv.1
  replace hv := hv.2
  obtain ⟨w10, hw10⟩ : ∃ w10 : Wd, w10 = yI w6 (wR w6 11 4 a0) (wI w2 11 30 a0).toNatClampNeg a1 := ⟨_, rfl⟩
  replace hv := hv w10 hw10
  refine e_iast (pc := 31) dX11_make_31 k8 hi9 ?_
  rw [← hw10]
  refine e_aload_n (pc := 32) (i := 0) dX11_make_32 rfl rfl ?_
  have k11 : wK w10 a0 = 12 := (by rw [hw10]; exact k7)
  refine e_getR (pc := 33) dX11_make_33 fRX11_23 rfl k11 ?_
  refine e_iload (pc := 36) (i := 8) dX11_make_36 rfl ?_
  refine e_iload_n (pc := 38) (i := 3) dX11_make_38 rfl rfl ?_
  refine e_if_ne (pc := 39) (tgt := 47) dX11_make_39 (by decide) (fun h12 => ?_) (fun h12 => ?_)
  · replace hv := hv.1 h12
    refine e_iload_n (pc := 47) (i := 3) dX11_make_47 rfl rfl ?_
    exact EJ.drop [0, 4, 5, 6, 8] rfl hv
  · replace hv := hv.2 h12
    refine e_iload (pc := 42) (i := 8) dX11_make_42 rfl ?_
    refine e_goto (pc := 44) (tgt := 48) dX11_make_44 (by decide) ?_
    exact EJ.drop [0, 4, 5, 6, 8] rfl hv
abbrev jX11_wrongBits_24 (X : Cx) (A : Int32 → Wd → Prop) (l0 : Nat) (l1 : Int32) (l2 : Int64) (l4 : Int32) (w : Wd) : Prop := EJ X mX11_wrongBits (vw X bX11_wrongBits (qI A)) 0 0 24 [(0, vR l0), (1, vI l1), (2, vJ l2), (4, vI l4)] [] w
set_option maxRecDepth 100000 in
set_option maxHeartbeats 4000000 in
theorem tX11_wrongBits_24 (X : Cx) (A : Int32 → Wd → Prop) (l0 : Nat) (l1 : Int32) (l2 : Int64) (l4 : Int32) (w : Wd)
    (hv : wK w l0 = 12 ∧ wK w (wR w 11 0 l0) = 13 ∧ vp_in l1 (wL w (wR w 11 0 l0)) ∧ (((xI w (wR w 11 0 l0) l1.toNatClampNeg) ≤ l4) → A 0 w) ∧ ((¬ (xI w (wR w 11 0 l0) l1.toNatClampNeg) ≤ l4) → ((¬ (lg_cmp ((l2 >>> (l4.toInt64 &&& 63)) &&& 1) 1) = 0) → jX11_wrongBits_24 X A l0 l1 l2 (l4 + 1) w) ∧ (((lg_cmp ((l2 >>> (l4.toInt64 &&& 63)) &&& 1) 1) = 0) → wK w (wR w 11 1 l0) = 15 ∧ vp_in ((60 * l1) + l4) (wL w (wR w 11 1 l0)) ∧ (((xI w (wR w 11 1 l0) ((60 * l1) + l4).toNatClampNeg) = 0) → jX11_wrongBits_24 X A l0 l1 l2 (l4 + 1) w) ∧ ((¬ (xI w (wR w 11 1 l0) ((60 * l1) + l4).toNatClampNeg) = 0) → A 3 w)))) :
    jX11_wrongBits_24 X A l0 l1 l2 l4 w := by
  refine e_iload (pc := 24) (i := 4) dX11_wrongBits_24 rfl ?_
  refine e_aload_n (pc := 26) (i := 0) dX11_wrongBits_26 rfl rfl ?_
  have k1 := hv.1
  replace hv := hv.2
  refine e_getR (pc := 27) dX11_wrongBits_27 fRX11_7 rfl k1 ?_
  refine e_iload_n (pc := 30) (i := 1) dX11_wrongBits_30 rfl rfl ?_
  have k2 := hv.1
  replace hv := hv.2
  have hi3 := hv.1
  replace hv := hv.2
  refine e_iald (pc := 31) dX11_wrongBits_31 k2 hi3 ?_
  refine e_icmp_ge (pc := 32) (tgt := 69) dX11_wrongBits_32 (by decide) (fun h4 => ?_) (fun h4 => ?_)
  · replace hv := hv.1 h4
    refine e_iconst (pc := 69) (v := 0) dX11_wrongBits_69 (by decide) ?_
    exact e_ireturn (pc := 70) dX11_wrongBits_70 rfl ⟨_, rfl, hv⟩
  · replace hv := hv.2 h4
    refine e_lload_n (pc := 35) (i := 2) dX11_wrongBits_35 rfl rfl ?_
    refine e_iload (pc := 36) (i := 4) dX11_wrongBits_36 rfl ?_
    refine e_lshr (pc := 38) dX11_wrongBits_38 ?_
    refine e_lconst (pc := 39) (v := 1) dX11_wrongBits_39 (by decide) ?_
    refine e_land (pc := 40) dX11_wrongBits_40 ?_
    refine e_lconst (pc := 41) (v := 1) dX11_wrongBits_41 (by decide) ?_
    refine e_lcmp (pc := 42) dX11_wrongBits_42 ?_
    refine e_if_ne (pc := 43) (tgt := 63) dX11_wrongBits_43 (by decide) (fun h5 => ?_) (fun h5 => ?_)
    · replace hv := hv.1 h5
      refine e_iinc (pc := 63) (v := l4 + 1) (lv' := [(0, vR l0), (1, vI l1), (2, vJ l2), (4, vI (l4 + 1))]) dX11_wrongBits_63 rfl rfl (by decide) rfl ?_
      refine e_goto (pc := 66) (tgt := 24) dX11_wrongBits_66 (by decide) ?_
      exact hv
    · replace hv := hv.2 h5
      refine e_aload_n (pc := 46) (i := 0) dX11_wrongBits_46 rfl rfl ?_
      refine e_getR (pc := 47) dX11_wrongBits_47 fRX11_13 rfl k1 ?_
      refine e_bipush (pc := 50) (v := 60) dX11_wrongBits_50 (by decide) ?_
      refine e_iload_n (pc := 52) (i := 1) dX11_wrongBits_52 rfl rfl ?_
      refine e_imul (pc := 53) dX11_wrongBits_53 ?_
      refine e_iload (pc := 54) (i := 4) dX11_wrongBits_54 rfl ?_
      refine e_iadd (pc := 56) dX11_wrongBits_56 ?_
      have k6 := hv.1
      replace hv := hv.2
      have hi7 := hv.1
      replace hv := hv.2
      refine e_zald (pc := 57) dX11_wrongBits_57 k6 hi7 ?_
      refine e_if_eq (pc := 58) (tgt := 63) dX11_wrongBits_58 (by decide) (fun h8 => ?_) (fun h8 => ?_)
      · replace hv := hv.1 h8
        refine e_iinc (pc := 63) (v := l4 + 1) (lv' := [(0, vR l0), (1, vI l1), (2, vJ l2), (4, vI (l4 + 1))]) dX11_wrongBits_63 rfl rfl (by decide) rfl ?_
        refine e_goto (pc := 66) (tgt := 24) dX11_wrongBits_66 (by decide) ?_
        exact hv
      · replace hv := hv.2 h8
        refine e_iconst (pc := 61) (v := 3) dX11_wrongBits_61 (by decide) ?_
        exact e_ireturn (pc := 62) dX11_wrongBits_62 rfl ⟨_, rfl, hv⟩
set_option maxRecDepth 100000 in
set_option maxHeartbeats 4000000 in
theorem oX11_wrongBits (X : Cx) (A : Int32 → Wd → Prop) (a0 : Nat) (a1 : Int32) (a2 : Int64) (w : Wd)
    (hv : (((lg_cmp a2 0) = 0) → A 2 w) ∧ ((¬ (lg_cmp a2 0) = 0) → wK w a0 = 12 ∧ wK w (wR w 11 0 a0) = 13 ∧ vp_in a1 (wL w (wR w 11 0 a0)) ∧ (((lg_cmp (a2 >>> ((xI w (wR w 11 0 a0) a1.toNatClampNeg).toInt64 &&& 63)) 0) = 0) → jX11_wrongBits_24 X A a0 a1 a2 0 w) ∧ ((¬ (lg_cmp (a2 >>> ((xI w (wR w 11 0 a0) a1.toNatClampNeg).toInt64 &&& 63)) 0) = 0) → A 2 w))) :
    Ct X bX11_wrongBits mX11_wrongBits [vR a0, vI a1, vJ a2] w (qI A) := by
  refine Ct.of (lv := [(0, vR a0), (1, vI a1), (2, vJ a2)]) rfl (Nat.le_of_ble_eq_true rfl) rfl ?_
  refine e_lload_n (pc := 0) (i := 2) dX11_wrongBits_0 rfl rfl ?_
  refine e_lconst (pc := 1) (v := 0) dX11_wrongBits_1 (by decide) ?_
  refine e_lcmp (pc := 2) dX11_wrongBits_2 ?_
  refine e_if_eq (pc := 3) (tgt := 19) dX11_wrongBits_3 (by decide) (fun h1 => ?_) (fun h1 => ?_)
  · replace hv := hv.1 h1
    refine e_iconst (pc := 19) (v := 2) dX11_wrongBits_19 (by decide) ?_
    exact e_ireturn (pc := 20) dX11_wrongBits_20 rfl ⟨_, rfl, hv⟩
  · replace hv := hv.2 h1
    refine e_lload_n (pc := 6) (i := 2) dX11_wrongBits_6 rfl rfl ?_
    refine e_aload_n (pc := 7) (i := 0) dX11_wrongBits_7 rfl rfl ?_
    have k2 := hv.1
    replace hv := hv.2
    refine e_getR (pc := 8) dX11_wrongBits_8 fRX11_7 rfl k2 ?_
    refine e_iload_n (pc := 11) (i := 1) dX11_wrongBits_11 rfl rfl ?_
    have k3 := hv.1
    replace hv := hv.2
    have hi4 := hv.1
    replace hv := hv.2
    refine e_iald (pc := 12) dX11_wrongBits_12 k3 hi4 ?_
    refine e_lshr (pc := 13) dX11_wrongBits_13 ?_
    refine e_lconst (pc := 14) (v := 0) dX11_wrongBits_14 (by decide) ?_
    refine e_lcmp (pc := 15) dX11_wrongBits_15 ?_
    refine e_if_eq (pc := 16) (tgt := 21) dX11_wrongBits_16 (by decide) (fun h5 => ?_) (fun h5 => ?_)
    · replace hv := hv.1 h5
      refine e_iconst (pc := 21) (v := 0) dX11_wrongBits_21 (by decide) ?_
      refine e_istore (pc := 22) (i := 4) (lv' := [(0, vR a0), (1, vI a1), (2, vJ a2), (4, vI 0)]) dX11_wrongBits_22 (by decide) rfl ?_
      exact hv
    · replace hv := hv.2 h5
      refine e_iconst (pc := 19) (v := 2) dX11_wrongBits_19 (by decide) ?_
      exact e_ireturn (pc := 20) dX11_wrongBits_20 rfl ⟨_, rfl, hv⟩
abbrev jX11_enter_58 (X : Cx) (A : Int32 → Wd → Prop) (l0 : Nat) (l1 : Int32) (l2 : Int32) (l3 : Int64) (l5 : Int32) (l6 : Int64) (s0 : Int32) (w : Wd) : Prop := EJ X mX11_enter (vw X bX11_enter (qI A)) 0 0 58 [(0, vR l0), (1, vI l1), (2, vI l2), (3, vJ l3), (5, vI l5), (6, vJ l6)] [vI s0] w
abbrev jX11_enter_136 (X : Cx) (A : Int32 → Wd → Prop) (l0 : Nat) (l3 : Int64) (l5 : Int32) (l6 : Int64) (s0 : Int64) (s1 : Int32) (s2 : Int32) (s3 : Int32) (s4 : Int32) (s5 : Int32) (s6 : Nat) (w : Wd) : Prop := EJ X mX11_enter (vw X bX11_enter (qI A)) 0 0 136 [(0, vR l0), (3, vJ l3), (5, vI l5), (6, vJ l6)] [vJ s0, vI s1, vI s2, vI s3, vI s4, vI s5, vR s6] w
set_option maxRecDepth 100000 in
set_option maxHeartbeats 4000000 in
theorem tX11_enter_136 (X : Cx) (A : Int32 → Wd → Prop) (l0 : Nat) (l3 : Int64) (l5 : Int32) (l6 : Int64) (s0 : Int64) (s1 : Int32) (s2 : Int32) (s3 : Int32) (s4 : Int32) (s5 : Int32) (s6 : Nat) (w : Wd)
    (hv : wK w s6 = 12 ∧ Ct X bX11_make mX11_make [vR s6, vI s5, vI s4, vI s3, vI s2, vI s1, vJ s0] w (qI fun x2 w1 => wK w1 l0 = 12 ∧ wK w1 (wR w1 11 10 l0) = 14 ∧ vp_in x2 (wL w1 (wR w1 11 10 l0)) ∧ ∀ w7 : Wd, w7 = yJ w1 (wR w1 11 10 l0) x2.toNatClampNeg l6 → wK w7 (wR w7 11 11 l0) = 13 ∧ vp_in x2 (wL w7 (wR w7 11 11 l0)) ∧ ∀ w11 : Wd, w11 = yI w7 (wR w7 11 11 l0) x2.toNatClampNeg l5 → wK w11 (wR w11 11 12 l0) = 14 ∧ vp_in x2 (wL w11 (wR w11 11 12 l0)) ∧ ∀ w15 : Wd, w15 = yJ w11 (wR w11 11 12 l0) x2.toNatClampNeg l3 → Ct X bX11_dateNow mX11_dateNow [vR l0] w15 (qI fun x18 w17 => wK w17 (wR w15 11 13 l0) = 13 ∧ vp_in x2 (wL w17 (wR w15 11 13 l0)) ∧ ∀ w21 : Wd, w21 = yI w17 (wR w15 11 13 l0) x2.toNatClampNeg x18 → wK w21 l0 = 12 ∧ wK w21 (wR w21 11 14 l0) = 13 ∧ vp_in x2 (wL w21 (wR w21 11 14 l0)) ∧ ∀ w25 : Wd, w25 = yI w21 (wR w21 11 14 l0) x2.toNatClampNeg (wI w21 11 39 l0) → wK w25 (wR w25 11 13 l0) = 13 ∧ vp_in x2 (wL w25 (wR w25 11 13 l0)) ∧ wK w25 (wR w25 11 17 l0) = 13 ∧ vp_in x2 (wL w25 (wR w25 11 17 l0)) ∧ ∀ w31 : Wd, w31 = yI w25 (wR w25 11 17 l0) x2.toNatClampNeg (xI w25 (wR w25 11 13 l0) x2.toNatClampNeg) → wK w31 (wR w31 11 20 l0) = 13 ∧ vp_in x2 (wL w31 (wR w31 11 20 l0)) ∧ ∀ w35 : Wd, w35 = yI w31 (wR w31 11 20 l0) x2.toNatClampNeg 36501 → wK w35 (wR w35 11 21 l0) = 13 ∧ vp_in x2 (wL w35 (wR w35 11 21 l0)) ∧ ∀ w39 : Wd, w39 = yI w35 (wR w35 11 21 l0) x2.toNatClampNeg 2 → ∀ w41 : Wd, w41 = sI w39 11 41 l0 0 → A x2 w41))) :
    jX11_enter_136 X A l0 l3 l5 l6 s0 s1 s2 s3 s4 s5 s6 w := by
  have k3 := hv.1
  replace hv := hv.2
  refine e_callVi (pc := 136) (ci := 11) (st := []) (rc' := 0) (rs' := 0) (B' := bX11_make) [vI s5, vI s4, vI s3, vI s2, vI s1, vJ s0] dX11_enter_136 vRX11_248 kX11_make (by decide) rfl k3 rfl rfl (Nat.le_of_ble_eq_true rfl) ⟨Nat.le_of_ble_eq_true rfl, Nat.le_of_ble_eq_true rfl⟩ rfl rfl hv (fun x2 w1 hv => ?_)
  refine e_istore (pc := 139) (i := 10) (lv' := [(0, vR l0), (3, vJ l3), (5, vI l5), (6, vJ l6), (10, vI x2)]) dX11_enter_139 (by decide) rfl ?_
  refine e_aload_n (pc := 141) (i := 0) dX11_enter_141 rfl rfl ?_
  have k4 := hv.1
  replace hv := hv.2
  refine e_getR (pc := 142) dX11_enter_142 fRX11_39 rfl k4 ?_
  refine e_iload (pc := 145) (i := 10) dX11_enter_145 rfl ?_
  refine e_lload (pc := 147) (i := 6) dX11_enter_147 rfl ?_
  have k5 := hv.1
  replace hv := hv.2
  have hi6 := hv.1
  replace hv := hv.2
  obtain ⟨w7, hw7⟩ : ∃ w7 : Wd, w7 = yJ w1 (wR w1 11 10 l0) x2.toNatClampNeg l6 := ⟨_, rfl⟩
  replace hv := hv w7 hw7
  refine e_last (pc := 149) dX11_enter_149 k5 hi6 ?_
  rw [← hw7]
  refine e_aload_n (pc := 150) (i := 0) dX11_enter_150 rfl rfl ?_
  have k8 : wK w7 l0 = 12 := (by rw [hw7]; exact k4)
  refine e_getR (pc := 151) dX11_enter_151 fRX11_42 rfl k8 ?_
  refine e_iload (pc := 154) (i := 10) dX11_enter_154 rfl ?_
  refine e_iload (pc := 156) (i := 5) dX11_enter_156 rfl ?_
  have k9 := hv.1
  replace hv := hv.2
  have hi10 := hv.1
  replace hv := hv.2
  obtain ⟨w11, hw11⟩ : ∃ w11 : Wd, w11 = yI w7 (wR w7 11 11 l0) x2.toNatClampNeg l5 := ⟨_, rfl⟩
  replace hv := hv w11 hw11
  refine e_iast (pc := 158) dX11_enter_158 k9 hi10 ?_
  rw [← hw11]
  refine e_aload_n (pc := 159) (i := 0) dX11_enter_159 rfl rfl ?_
  have k12 : wK w11 l0 = 12 := (by rw [hw11]; exact k8)
  refine e_getR (pc := 160) dX11_enter_160 fRX11_45 rfl k12 ?_
  refine e_iload (pc := 163) (i := 10) dX11_enter_163 rfl ?_
  refine e_lload_n (pc := 165) (i := 3) dX11_enter_165 rfl rfl ?_
  have k13 := hv.1
  replace hv := hv.2
  have hi14 := hv.1
  replace hv := hv.2
  obtain ⟨w15, hw15⟩ : ∃ w15 : Wd, w15 = yJ w11 (wR w11 11 12 l0) x2.toNatClampNeg l3 := ⟨_, rfl⟩
  replace hv := hv w15 hw15
  refine e_last (pc := 166) dX11_enter_166 k13 hi14 ?_
  rw [← hw15]
  refine e_aload_n (pc := 167) (i := 0) dX11_enter_167 rfl rfl ?_
  have k16 : wK w15 l0 = 12 := (by rw [hw15]; exact k12)
  refine e_getR (pc := 168) dX11_enter_168 fRX11_48 rfl k16 ?_
  refine e_iload (pc := 171) (i := 10) dX11_enter_171 rfl ?_
  refine e_aload_n (pc := 173) (i := 0) dX11_enter_173 rfl rfl ?_
  refine e_callVi (pc := 174) (ci := 11) (st := [vI x2, vR (wR w15 11 13 l0)]) (rc' := 0) (rs' := 0) (B' := bX11_dateNow) [] dX11_enter_174 vRX11_252 kX11_dateNow (by decide) rfl k16 rfl rfl (Nat.le_of_ble_eq_true rfl) ⟨Nat.le_of_ble_eq_true rfl, Nat.le_of_ble_eq_true rfl⟩ rfl rfl hv (fun x18 w17 hv => ?_)
  have k19 := hv.1
  replace hv := hv.2
  have hi20 := hv.1
  replace hv := hv.2
  obtain ⟨w21, hw21⟩ : ∃ w21 : Wd, w21 = yI w17 (wR w15 11 13 l0) x2.toNatClampNeg x18 := ⟨_, rfl⟩
  replace hv := hv w21 hw21
  refine e_iast (pc := 177) dX11_enter_177 k19 hi20 ?_
  rw [← hw21]
  refine e_aload_n (pc := 178) (i := 0) dX11_enter_178 rfl rfl ?_
  have k22 := hv.1
  replace hv := hv.2
  refine e_getR (pc := 179) dX11_enter_179 fRX11_51 rfl k22 ?_
  refine e_iload (pc := 182) (i := 10) dX11_enter_182 rfl ?_
  refine e_aload_n (pc := 184) (i := 0) dX11_enter_184 rfl rfl ?_
  refine e_getI (pc := 185) dX11_enter_185 fRX11_166 rfl k22 ?_
  have k23 := hv.1
  replace hv := hv.2
  have hi24 := hv.1
  replace hv := hv.2
  obtain ⟨w25, hw25⟩ : ∃ w25 : Wd, w25 = yI w21 (wR w21 11 14 l0) x2.toNatClampNeg (wI w21 11 39 l0) := ⟨_, rfl⟩
  replace hv := hv w25 hw25
  refine e_iast (pc := 188) dX11_enter_188 k23 hi24 ?_
  rw [← hw25]
  refine e_aload_n (pc := 189) (i := 0) dX11_enter_189 rfl rfl ?_
  have k26 : wK w25 l0 = 12 := (by rw [hw25]; exact k22)
  refine e_getR (pc := 190) dX11_enter_190 fRX11_60 rfl k26 ?_
  refine e_iload (pc := 193) (i := 10) dX11_enter_193 rfl ?_
  refine e_aload_n (pc := 195) (i := 0) dX11_enter_195 rfl rfl ?_
  refine e_getR (pc := 196) dX11_enter_196 fRX11_48 rfl k26 ?_
  refine e_iload (pc := 199) (i := 10) dX11_enter_199 rfl ?_
  have k27 := hv.1
  replace hv := hv.2
  have hi28 := hv.1
  replace hv := hv.2
  refine e_iald (pc := 201) dX11_enter_201 k27 hi28 ?_
  have k29 := hv.1
  replace hv := hv.2
  have hi30 := hv.1
  replace hv := hv.2
  obtain ⟨w31, hw31⟩ : ∃ w31 : Wd, w31 = yI w25 (wR w25 11 17 l0) x2.toNatClampNeg (xI w25 (wR w25 11 13 l0) x2.toNatClampNeg) := ⟨_, rfl⟩
  replace hv := hv w31 hw31
  refine e_iast (pc := 202) dX11_enter_202 k29 hi30 ?_
  rw [← hw31]
  refine e_aload_n (pc := 203) (i := 0) dX11_enter_203 rfl rfl ?_
  have k32 : wK w31 l0 = 12 := (by rw [hw31]; exact k26)
  refine e_getR (pc := 204) dX11_enter_204 fRX11_69 rfl k32 ?_
  refine e_iload (pc := 207) (i := 10) dX11_enter_207 rfl ?_
  refine e_ldc_w (pc := 209) (v := 36501) dX11_enter_209 (tb_a5 185 (by decide +kernel) rfl) ?_
  have k33 := hv.1
  replace hv := hv.2
  have hi34 := hv.1
  replace hv := hv.2
  obtain ⟨w35, hw35⟩ : ∃ w35 : Wd, w35 = yI w31 (wR w31 11 20 l0) x2.toNatClampNeg 36501 := ⟨_, rfl⟩
  replace hv := hv w35 hw35
  refine e_iast (pc := 212) dX11_enter_212 k33 hi34 ?_
  rw [← hw35]
  refine e_aload_n (pc := 213) (i := 0) dX11_enter_213 rfl rfl ?_
  have k36 : wK w35 l0 = 12 := (by rw [hw35]; exact k32)
  refine e_getR (pc := 214) dX11_enter_214 fRX11_72 rfl k36 ?_
  refine e_iload (pc := 217) (i := 10) dX11_enter_217 rfl ?_
  refine e_iconst (pc := 219) (v := 2) dX11_enter_219 (by decide) ?_
  have k37 := hv.1
  replace hv := hv.2
  have hi38 := hv.1
  replace hv := hv.2
  obtain ⟨w39, hw39⟩ : ∃ w39 : Wd, w39 = yI w35 (wR w35 11 21 l0) x2.toNatClampNeg 2 := ⟨_, rfl⟩
  replace hv := hv w39 hw39
  refine e_iast (pc := 220) dX11_enter_220 k37 hi38 ?_
  rw [← hw39]
  refine e_aload_n (pc := 221) (i := 0) dX11_enter_221 rfl rfl ?_
  refine e_iconst (pc := 222) (v := 0) dX11_enter_222 (by decide) ?_
  have k40 : wK w39 l0 = 12 := (by rw [hw39]; exact k36)
  obtain ⟨w41, hw41⟩ : ∃ w41 : Wd, w41 = sI w39 11 41 l0 0 := ⟨_, rfl⟩
  replace hv := hv w41 hw41
  refine e_putI (pc := 223) dX11_enter_223 fRX11_163 (Or.inl rfl) rfl k40 ?_
  rw [← hw41]
  refine e_iload (pc := 226) (i := 10) dX11_enter_226 rfl ?_
  exact e_ireturn (pc := 228) dX11_enter_228 rfl ⟨_, rfl, hv⟩
set_option maxRecDepth 100000 in
set_option maxHeartbeats 4000000 in
theorem tX11_enter_58 (X : Cx) (A : Int32 → Wd → Prop) (l0 : Nat) (l1 : Int32) (l2 : Int32) (l3 : Int64) (l5 : Int32) (l6 : Int64) (s0 : Int32) (w : Wd)
    (hv : ((l2 < 1) → wK w l0 = 12 ∧ Ct X bX11_refuse mX11_refuse [vR l0, vI 5] w (qI fun x3 w2 => A x3 w2)) ∧ ((¬ l2 < 1) → ((6 < l2) → wK w l0 = 12 ∧ Ct X bX11_refuse mX11_refuse [vR l0, vI 5] w (qI fun x7 w6 => A x7 w6)) ∧ ((¬ 6 < l2) → (((lg_cmp l3 0) < 0) → wK w l0 = 12 ∧ Ct X bX11_refuse mX11_refuse [vR l0, vI 5] w (qI fun x11 w10 => A x11 w10)) ∧ ((¬ (lg_cmp l3 0) < 0) → ((0 < (lg_cmp l3 999999999999)) → wK w l0 = 12 ∧ Ct X bX11_refuse mX11_refuse [vR l0, vI 5] w (qI fun x15 w14 => A x15 w14)) ∧ ((¬ 0 < (lg_cmp l3 999999999999)) → ((l5 < 0) → wK w l0 = 12 ∧ Ct X bX11_refuse mX11_refuse [vR l0, vI 5] w (qI fun x19 w18 => A x19 w18)) ∧ ((¬ l5 < 0) → ((l5 ≤ s0) → wK w l0 = 12 ∧ ((¬ (wI w 11 30 l0) = 300) → ((¬ l2 = 3) → jX11_enter_136 X A l0 l3 l5 l6 l3 0 0 0 l2 l1 l0 w) ∧ ((l2 = 3) → jX11_enter_136 X A l0 l3 l5 l6 0 0 0 0 l2 l1 l0 w)) ∧ (((wI w 11 30 l0) = 300) → Ct X bX11_refuse mX11_refuse [vR l0, vI 10] w (qI fun x26 w25 => A x26 w25))) ∧ ((¬ l5 ≤ s0) → wK w l0 = 12 ∧ Ct X bX11_refuse mX11_refuse [vR l0, vI 5] w (qI fun x28 w27 => A x28 w27)))))))) :
    jX11_enter_58 X A l0 l1 l2 l3 l5 l6 s0 w := by
  refine e_istore (pc := 58) (i := 9) (lv' := [(0, vR l0), (1, vI l1), (2, vI l2), (3, vJ l3), (5, vI l5), (6, vJ l6), (9, vI s0)]) dX11_enter_58 (by decide) rfl ?_
  refine e_iload_n (pc := 60) (i := 2) dX11_enter_60 rfl rfl ?_
  refine e_iconst (pc := 61) (v := 1) dX11_enter_61 (by decide) ?_
  refine e_icmp_lt (pc := 62) (tgt := 97) dX11_enter_62 (by decide) (fun h1 => ?_) (fun h1 => ?_)
  · replace hv := hv.1 h1
    refine e_aload_n (pc := 97) (i := 0) dX11_enter_97 rfl rfl ?_
    refine e_iconst (pc := 98) (v := 5) dX11_enter_98 (by decide) ?_
    have k4 := hv.1
    replace hv := hv.2
    refine e_callVi (pc := 99) (ci := 11) (st := []) (rc' := 0) (rs' := 0) (B' := bX11_refuse) [vI 5] dX11_enter_99 vRX11_231 kX11_refuse (by decide) rfl k4 rfl rfl (Nat.le_of_ble_eq_true rfl) ⟨Nat.le_of_ble_eq_true rfl, Nat.le_of_ble_eq_true rfl⟩ rfl rfl hv (fun x3 w2 hv => ?_)
    exact e_ireturn (pc := 102) dX11_enter_102 rfl ⟨_, rfl, hv⟩
  · replace hv := hv.2 h1
    refine e_iload_n (pc := 65) (i := 2) dX11_enter_65 rfl rfl ?_
    refine e_bipush (pc := 66) (v := 6) dX11_enter_66 (by decide) ?_
    refine e_icmp_gt (pc := 68) (tgt := 97) dX11_enter_68 (by decide) (fun h5 => ?_) (fun h5 => ?_)
    · replace hv := hv.1 h5
      refine e_aload_n (pc := 97) (i := 0) dX11_enter_97 rfl rfl ?_
      refine e_iconst (pc := 98) (v := 5) dX11_enter_98 (by decide) ?_
      have k8 := hv.1
      replace hv := hv.2
      refine e_callVi (pc := 99) (ci := 11) (st := []) (rc' := 0) (rs' := 0) (B' := bX11_refuse) [vI 5] dX11_enter_99 vRX11_231 kX11_refuse (by decide) rfl k8 rfl rfl (Nat.le_of_ble_eq_true rfl) ⟨Nat.le_of_ble_eq_true rfl, Nat.le_of_ble_eq_true rfl⟩ rfl rfl hv (fun x7 w6 hv => ?_)
      exact e_ireturn (pc := 102) dX11_enter_102 rfl ⟨_, rfl, hv⟩
    · replace hv := hv.2 h5
      refine e_lload_n (pc := 71) (i := 3) dX11_enter_71 rfl rfl ?_
      refine e_lconst (pc := 72) (v := 0) dX11_enter_72 (by decide) ?_
      refine e_lcmp (pc := 73) dX11_enter_73 ?_
      refine e_if_lt (pc := 74) (tgt := 97) dX11_enter_74 (by decide) (fun h9 => ?_) (fun h9 => ?_)
      · replace hv := hv.1 h9
        refine e_aload_n (pc := 97) (i := 0) dX11_enter_97 rfl rfl ?_
        refine e_iconst (pc := 98) (v := 5) dX11_enter_98 (by decide) ?_
        have k12 := hv.1
        replace hv := hv.2
        refine e_callVi (pc := 99) (ci := 11) (st := []) (rc' := 0) (rs' := 0) (B' := bX11_refuse) [vI 5] dX11_enter_99 vRX11_231 kX11_refuse (by decide) rfl k12 rfl rfl (Nat.le_of_ble_eq_true rfl) ⟨Nat.le_of_ble_eq_true rfl, Nat.le_of_ble_eq_true rfl⟩ rfl rfl hv (fun x11 w10 hv => ?_)
        exact e_ireturn (pc := 102) dX11_enter_102 rfl ⟨_, rfl, hv⟩
      · replace hv := hv.2 h9
        refine e_lload_n (pc := 77) (i := 3) dX11_enter_77 rfl rfl ?_
        refine e_ldc2 (pc := 78) (v := 999999999999) dX11_enter_78 (tb_a5 176 (by decide +kernel) rfl) ?_
        refine e_lcmp (pc := 81) dX11_enter_81 ?_
        refine e_if_gt (pc := 82) (tgt := 97) dX11_enter_82 (by decide) (fun h13 => ?_) (fun h13 => ?_)
        · replace hv := hv.1 h13
          refine e_aload_n (pc := 97) (i := 0) dX11_enter_97 rfl rfl ?_
          refine e_iconst (pc := 98) (v := 5) dX11_enter_98 (by decide) ?_
          have k16 := hv.1
          replace hv := hv.2
          refine e_callVi (pc := 99) (ci := 11) (st := []) (rc' := 0) (rs' := 0) (B' := bX11_refuse) [vI 5] dX11_enter_99 vRX11_231 kX11_refuse (by decide) rfl k16 rfl rfl (Nat.le_of_ble_eq_true rfl) ⟨Nat.le_of_ble_eq_true rfl, Nat.le_of_ble_eq_true rfl⟩ rfl rfl hv (fun x15 w14 hv => ?_)
          exact e_ireturn (pc := 102) dX11_enter_102 rfl ⟨_, rfl, hv⟩
        · replace hv := hv.2 h13
          refine e_iload (pc := 85) (i := 5) dX11_enter_85 rfl ?_
          refine e_if_lt (pc := 87) (tgt := 97) dX11_enter_87 (by decide) (fun h17 => ?_) (fun h17 => ?_)
          · replace hv := hv.1 h17
            refine e_aload_n (pc := 97) (i := 0) dX11_enter_97 rfl rfl ?_
            refine e_iconst (pc := 98) (v := 5) dX11_enter_98 (by decide) ?_
            have k20 := hv.1
            replace hv := hv.2
            refine e_callVi (pc := 99) (ci := 11) (st := []) (rc' := 0) (rs' := 0) (B' := bX11_refuse) [vI 5] dX11_enter_99 vRX11_231 kX11_refuse (by decide) rfl k20 rfl rfl (Nat.le_of_ble_eq_true rfl) ⟨Nat.le_of_ble_eq_true rfl, Nat.le_of_ble_eq_true rfl⟩ rfl rfl hv (fun x19 w18 hv => ?_)
            exact e_ireturn (pc := 102) dX11_enter_102 rfl ⟨_, rfl, hv⟩
          · replace hv := hv.2 h17
            refine e_iload (pc := 90) (i := 5) dX11_enter_90 rfl ?_
            refine e_iload (pc := 92) (i := 9) dX11_enter_92 rfl ?_
            refine e_icmp_le (pc := 94) (tgt := 103) dX11_enter_94 (by decide) (fun h21 => ?_) (fun h21 => ?_)
            · replace hv := hv.1 h21
              refine e_aload_n (pc := 103) (i := 0) dX11_enter_103 rfl rfl ?_
              have k22 := hv.1
              replace hv := hv.2
              refine e_getI (pc := 104) dX11_enter_104 fRX11_169 rfl k22 ?_
              refine e_sipush (pc := 107) (v := 300) dX11_enter_107 (by decide) ?_
              refine e_icmp_ne (pc := 110) (tgt := 120) dX11_enter_110 (by decide) (fun h23 => ?_) (fun h23 => ?_)
              · replace hv := hv.1 h23
                refine e_aload_n (pc := 120) (i := 0) dX11_enter_120 rfl rfl ?_
                refine e_iload_n (pc := 121) (i := 1) dX11_enter_121 rfl rfl ?_
                refine e_iload_n (pc := 122) (i := 2) dX11_enter_122 rfl rfl ?_
                refine e_iconst (pc := 123) (v := 0) dX11_enter_123 (by decide) ?_
                refine e_iconst (pc := 124) (v := 0) dX11_enter_124 (by decide) ?_
                refine e_iconst (pc := 125) (v := 0) dX11_enter_125 (by decide) ?_
                refine e_iload_n (pc := 126) (i := 2) dX11_enter_126 rfl rfl ?_
                refine e_iconst (pc := 127) (v := 3) dX11_enter_127 (by decide) ?_
                refine e_icmp_ne (pc := 128) (tgt := 135) dX11_enter_128 (by decide) (fun h24 => ?_) (fun h24 => ?_)
                · replace hv := hv.1 h24
                  refine e_lload_n (pc := 135) (i := 3) dX11_enter_135 rfl rfl ?_
                  exact EJ.drop [0, 3, 5, 6] rfl hv
                · replace hv := hv.2 h24
                  refine e_lconst (pc := 131) (v := 0) dX11_enter_131 (by decide) ?_
                  refine e_goto (pc := 132) (tgt := 136) dX11_enter_132 (by decide) ?_
                  exact EJ.drop [0, 3, 5, 6] rfl hv
              · replace hv := hv.2 h23
                refine e_aload_n (pc := 113) (i := 0) dX11_enter_113 rfl rfl ?_
                refine e_bipush (pc := 114) (v := 10) dX11_enter_114 (by decide) ?_
                refine e_callVi (pc := 116) (ci := 11) (st := []) (rc' := 0) (rs' := 0) (B' := bX11_refuse) [vI 10] dX11_enter_116 vRX11_231 kX11_refuse (by decide) rfl k22 rfl rfl (Nat.le_of_ble_eq_true rfl) ⟨Nat.le_of_ble_eq_true rfl, Nat.le_of_ble_eq_true rfl⟩ rfl rfl hv (fun x26 w25 hv => ?_)
                exact e_ireturn (pc := 119) dX11_enter_119 rfl ⟨_, rfl, hv⟩
            · replace hv := hv.2 h21
              refine e_aload_n (pc := 97) (i := 0) dX11_enter_97 rfl rfl ?_
              refine e_iconst (pc := 98) (v := 5) dX11_enter_98 (by decide) ?_
              have k29 := hv.1
              replace hv := hv.2
              refine e_callVi (pc := 99) (ci := 11) (st := []) (rc' := 0) (rs' := 0) (B' := bX11_refuse) [vI 5] dX11_enter_99 vRX11_231 kX11_refuse (by decide) rfl k29 rfl rfl (Nat.le_of_ble_eq_true rfl) ⟨Nat.le_of_ble_eq_true rfl, Nat.le_of_ble_eq_true rfl⟩ rfl rfl hv (fun x28 w27 hv => ?_)
              exact e_ireturn (pc := 102) dX11_enter_102 rfl ⟨_, rfl, hv⟩
set_option maxRecDepth 100000 in
set_option maxHeartbeats 4000000 in
theorem oX11_enter (X : Cx) (A : Int32 → Wd → Prop) (a0 : Nat) (a1 : Int32) (a2 : Int32) (a3 : Int64) (a5 : Int32) (a6 : Int64) (w : Wd)
    (hv : ((a1 < 0) → wK w a0 = 12 ∧ Ct X bX11_refuse mX11_refuse [vR a0, vI 1] w (qI fun x3 w2 => A x3 w2)) ∧ ((¬ a1 < 0) → wK w a0 = 12 ∧ ((a1 < (wI w 11 2 a0)) → Ct X bX11_wrongBits mX11_wrongBits [vR a0, vI a1, vJ a6] w (qI fun x8 w7 => ((x8 ≤ 0) → ((a2 = 4) → jX11_enter_58 X A a0 a1 a2 a3 a5 a6 36500 w7) ∧ ((¬ a2 = 4) → ((¬ a2 = 6) → jX11_enter_58 X A a0 a1 a2 a3 a5 a6 200 w7) ∧ ((a2 = 6) → jX11_enter_58 X A a0 a1 a2 a3 a5 a6 36500 w7))) ∧ ((¬ x8 ≤ 0) → wK w7 a0 = 12 ∧ Ct X bX11_refuse mX11_refuse [vR a0, vI x8] w7 (qI fun x13 w12 => A x13 w12)))) ∧ ((¬ a1 < (wI w 11 2 a0)) → Ct X bX11_refuse mX11_refuse [vR a0, vI 1] w (qI fun x16 w15 => A x16 w15)))) :
    Ct X bX11_enter mX11_enter [vR a0, vI a1, vI a2, vJ a3, vI a5, vJ a6] w (qI A) := by
  refine Ct.of (lv := [(0, vR a0), (1, vI a1), (2, vI a2), (3, vJ a3), (5, vI a5), (6, vJ a6)]) rfl (Nat.le_of_ble_eq_true rfl) rfl ?_
  refine e_iload_n (pc := 0) (i := 1) dX11_enter_0 rfl rfl ?_
  refine e_if_lt (pc := 1) (tgt := 12) dX11_enter_1 (by decide) (fun h1 => ?_) (fun h1 => ?_)
  · replace hv := hv.1 h1
    refine e_aload_n (pc := 12) (i := 0) dX11_enter_12 rfl rfl ?_
    refine e_iconst (pc := 13) (v := 1) dX11_enter_13 (by decide) ?_
    have k4 := hv.1
    replace hv := hv.2
    refine e_callVi (pc := 14) (ci := 11) (st := []) (rc' := 0) (rs' := 0) (B' := bX11_refuse) [vI 1] dX11_enter_14 vRX11_231 kX11_refuse (by decide) rfl k4 rfl rfl (Nat.le_of_ble_eq_true rfl) ⟨Nat.le_of_ble_eq_true rfl, Nat.le_of_ble_eq_true rfl⟩ rfl rfl hv (fun x3 w2 hv => ?_)
    exact e_ireturn (pc := 17) dX11_enter_17 rfl ⟨_, rfl, hv⟩
  · replace hv := hv.2 h1
    refine e_iload_n (pc := 4) (i := 1) dX11_enter_4 rfl rfl ?_
    refine e_aload_n (pc := 5) (i := 0) dX11_enter_5 rfl rfl ?_
    have k5 := hv.1
    replace hv := hv.2
    refine e_getI (pc := 6) dX11_enter_6 fRX11_172 rfl k5 ?_
    refine e_icmp_lt (pc := 9) (tgt := 18) dX11_enter_9 (by decide) (fun h6 => ?_) (fun h6 => ?_)
    · replace hv := hv.1 h6
      refine e_aload_n (pc := 18) (i := 0) dX11_enter_18 rfl rfl ?_
      refine e_iload_n (pc := 19) (i := 1) dX11_enter_19 rfl rfl ?_
      refine e_lload (pc := 20) (i := 6) dX11_enter_20 rfl ?_
      refine e_callVi (pc := 22) (ci := 11) (st := []) (rc' := 0) (rs' := 0) (B' := bX11_wrongBits) [vI a1, vJ a6] dX11_enter_22 vRX11_242 kX11_wrongBits (by decide) rfl k5 rfl rfl (Nat.le_of_ble_eq_true rfl) ⟨Nat.le_of_ble_eq_true rfl, Nat.le_of_ble_eq_true rfl⟩ rfl rfl hv (fun x8 w7 hv => ?_)
      refine e_istore (pc := 25) (i := 8) (lv' := [(0, vR a0), (1, vI a1), (2, vI a2), (3, vJ a3), (5, vI a5), (6, vJ a6), (8, vI x8)]) dX11_enter_25 (by decide) rfl ?_
      refine e_iload (pc := 27) (i := 8) dX11_enter_27 rfl ?_
      refine e_if_le (pc := 29) (tgt := 39) dX11_enter_29 (by decide) (fun h9 => ?_) (fun h9 => ?_)
      · replace hv := hv.1 h9
        refine e_iload_n (pc := 39) (i := 2) dX11_enter_39 rfl rfl ?_
        refine e_iconst (pc := 40) (v := 4) dX11_enter_40 (by decide) ?_
        refine e_icmp_eq (pc := 41) (tgt := 50) dX11_enter_41 (by decide) (fun h10 => ?_) (fun h10 => ?_)
        · replace hv := hv.1 h10
          refine e_ldc (pc := 50) (v := 36500) dX11_enter_50 (tb_a5 163 (by decide +kernel) rfl) ?_
          refine e_goto (pc := 52) (tgt := 58) dX11_enter_52 (by decide) ?_
          exact EJ.drop [0, 1, 2, 3, 5, 6] rfl hv
        · replace hv := hv.2 h10
          refine e_iload_n (pc := 44) (i := 2) dX11_enter_44 rfl rfl ?_
          refine e_bipush (pc := 45) (v := 6) dX11_enter_45 (by decide) ?_
          refine e_icmp_ne (pc := 47) (tgt := 55) dX11_enter_47 (by decide) (fun h11 => ?_) (fun h11 => ?_)
          · replace hv := hv.1 h11
            refine e_sipush (pc := 55) (v := 200) dX11_enter_55 (by decide) ?_
            exact EJ.drop [0, 1, 2, 3, 5, 6] rfl hv
          · replace hv := hv.2 h11
            refine e_ldc (pc := 50) (v := 36500) dX11_enter_50 (tb_a5 163 (by decide +kernel) rfl) ?_
            refine e_goto (pc := 52) (tgt := 58) dX11_enter_52 (by decide) ?_
            exact EJ.drop [0, 1, 2, 3, 5, 6] rfl hv
      · replace hv := hv.2 h9
        refine e_aload_n (pc := 32) (i := 0) dX11_enter_32 rfl rfl ?_
        refine e_iload (pc := 33) (i := 8) dX11_enter_33 rfl ?_
        have k14 := hv.1
        replace hv := hv.2
        refine e_callVi (pc := 35) (ci := 11) (st := []) (rc' := 0) (rs' := 0) (B' := bX11_refuse) [vI x8] dX11_enter_35 vRX11_231 kX11_refuse (by decide) rfl k14 rfl rfl (Nat.le_of_ble_eq_true rfl) ⟨Nat.le_of_ble_eq_true rfl, Nat.le_of_ble_eq_true rfl⟩ rfl rfl hv (fun x13 w12 hv => ?_)
        exact e_ireturn (pc := 38) dX11_enter_38 rfl ⟨_, rfl, hv⟩
    · replace hv := hv.2 h6
      refine e_aload_n (pc := 12) (i := 0) dX11_enter_12 rfl rfl ?_
      refine e_iconst (pc := 13) (v := 1) dX11_enter_13 (by decide) ?_
      refine e_callVi (pc := 14) (ci := 11) (st := []) (rc' := 0) (rs' := 0) (B' := bX11_refuse) [vI 1] dX11_enter_14 vRX11_231 kX11_refuse (by decide) rfl k5 rfl rfl (Nat.le_of_ble_eq_true rfl) ⟨Nat.le_of_ble_eq_true rfl, Nat.le_of_ble_eq_true rfl⟩ rfl rfl hv (fun x16 w15 hv => ?_)
      exact e_ireturn (pc := 17) dX11_enter_17 rfl ⟨_, rfl, hv⟩
