set_option maxRecDepth 100000 in
set_option maxHeartbeats 4000000 in
theorem pX11_refuse (X : Cx) (w0 : Wd) (m : Nat) (hS : Sh w0 m) (A : Int32 → Rs → Prop) (a1 : Int32) (r : Rs)
    (hv : ∀ r1 : Rs, r1 = uS r 41 a1 → A (-1) r1) :
    CM X w0 m bX11_refuse mX11_refuse [vI a1] r (pI A) := by
  intro w hW
  refine Ct.of (Q := qM w0 m (pI A)) (lv := [(0, vR m), (1, vI a1)]) rfl (Nat.le_of_ble_eq_true rfl) rfl ?_
  refine e_aload_n (pc := 0) (i := 0) dX11_refuse_0 rfl rfl ?_
  refine e_iload_n (pc := 1) (i := 1) dX11_refuse_1 rfl rfl ?_
  refine n_putS (pc := 2) hS hW 41 dX11_refuse_2 fRX11_163 rfl rfl (fun w2 hw2 => ?_)
  obtain ⟨r1, er1⟩ : ∃ r1 : Rs, r1 = uS r 41 a1 := ⟨_, rfl⟩
  replace hv := hv r1 er1
  rw [← er1] at hw2
  refine e_iconst (pc := 5) (v := (-1)) dX11_refuse_5 (by decide) ?_
  exact e_ireturn (pc := 6) dX11_refuse_6 rfl ⟨r1, hw2, _, rfl, hv⟩
set_option maxRecDepth 100000 in
set_option maxHeartbeats 4000000 in
theorem pX11_no (X : Cx) (w0 : Wd) (m : Nat) (hS : Sh w0 m) (A : Int32 → Rs → Prop) (a1 : Int32) (r : Rs)
    (hv : ∀ r1 : Rs, r1 = uS r 41 a1 → A 0 r1) :
    CM X w0 m bX11_no mX11_no [vI a1] r (pI A) := by
  intro w hW
  refine Ct.of (Q := qM w0 m (pI A)) (lv := [(0, vR m), (1, vI a1)]) rfl (Nat.le_of_ble_eq_true rfl) rfl ?_
  refine e_aload_n (pc := 0) (i := 0) dX11_no_0 rfl rfl ?_
  refine e_iload_n (pc := 1) (i := 1) dX11_no_1 rfl rfl ?_
  refine n_putS (pc := 2) hS hW 41 dX11_no_2 fRX11_163 rfl rfl (fun w2 hw2 => ?_)
  obtain ⟨r1, er1⟩ : ∃ r1 : Rs, r1 = uS r 41 a1 := ⟨_, rfl⟩
  replace hv := hv r1 er1
  rw [← er1] at hw2
  refine e_iconst (pc := 5) (v := 0) dX11_no_5 (by decide) ?_
  exact e_zreturn (pc := 6) dX11_no_6 rfl (Or.inl rfl) ⟨r1, hw2, _, rfl, hv⟩
set_option maxRecDepth 100000 in
set_option maxHeartbeats 4000000 in
theorem pX11_dateNow (X : Cx) (w0 : Wd) (m : Nat) (hS : Sh w0 m) (A : Int32 → Rs → Prop)  (r : Rs)
    (hv : ((¬ (sS r 40) = (-1)) → A (sS r 40) r) ∧ (((sS r 40) = (-1)) → A (sS r 39) r)) :
    CM X w0 m bX11_dateNow mX11_dateNow [] r (pI A) := by
  intro w hW
  refine Ct.of (Q := qM w0 m (pI A)) (lv := [(0, vR m)]) rfl (Nat.le_of_ble_eq_true rfl) rfl ?_
  refine e_aload_n (pc := 0) (i := 0) dX11_dateNow_0 rfl rfl ?_
  refine n_getS (pc := 1) hS hW 40 dX11_dateNow_1 fRX11_120 rfl ?_
  refine e_iconst (pc := 4) (v := (-1)) dX11_dateNow_4 (by decide) ?_
  refine e_icmp_ne (pc := 5) (tgt := 15) dX11_dateNow_5 (by decide) (fun h1 => ?_) (fun h1 => ?_)
  · replace hv := hv.1 h1
    refine e_aload_n (pc := 15) (i := 0) dX11_dateNow_15 rfl rfl ?_
    refine n_getS (pc := 16) hS hW 40 dX11_dateNow_16 fRX11_120 rfl ?_
    exact e_ireturn (pc := 19) dX11_dateNow_19 rfl ⟨r, hW, _, rfl, hv⟩
  · replace hv := hv.2 h1
    refine e_aload_n (pc := 8) (i := 0) dX11_dateNow_8 rfl rfl ?_
    refine n_getS (pc := 9) hS hW 39 dX11_dateNow_9 fRX11_166 rfl ?_
    refine e_goto (pc := 12) (tgt := 19) dX11_dateNow_12 (by decide) ?_
    exact e_ireturn (pc := 19) dX11_dateNow_19 rfl ⟨r, hW, _, rfl, hv⟩
set_option maxRecDepth 100000 in
set_option maxHeartbeats 4000000 in
theorem pX11_isEntry (X : Cx) (w0 : Wd) (m : Nat) (hS : Sh w0 m) (A : Int32 → Rs → Prop) (a1 : Int32) (r : Rs)
    (hv : ((a1 < 1) → A 0 r) ∧ ((¬ a1 < 1) → (((sS r 30) < a1) → A 0 r) ∧ ((¬ (sS r 30) < a1) → A 1 r))) :
    CM X w0 m bX11_isEntry mX11_isEntry [vI a1] r (pI A) := by
  intro w hW
  refine Ct.of (Q := qM w0 m (pI A)) (lv := [(0, vR m), (1, vI a1)]) rfl (Nat.le_of_ble_eq_true rfl) rfl ?_
  refine e_iload_n (pc := 0) (i := 1) dX11_isEntry_0 rfl rfl ?_
  refine e_iconst (pc := 1) (v := 1) dX11_isEntry_1 (by decide) ?_
  refine e_icmp_lt (pc := 2) (tgt := 17) dX11_isEntry_2 (by decide) (fun h1 => ?_) (fun h1 => ?_)
  · replace hv := hv.1 h1
    refine e_iconst (pc := 17) (v := 0) dX11_isEntry_17 (by decide) ?_
    exact e_zreturn (pc := 18) dX11_isEntry_18 rfl (Or.inl rfl) ⟨r, hW, _, rfl, hv⟩
  · replace hv := hv.2 h1
    refine e_iload_n (pc := 5) (i := 1) dX11_isEntry_5 rfl rfl ?_
    refine e_aload_n (pc := 6) (i := 0) dX11_isEntry_6 rfl rfl ?_
    refine n_getS (pc := 7) hS hW 30 dX11_isEntry_7 fRX11_169 rfl ?_
    refine e_icmp_gt (pc := 10) (tgt := 17) dX11_isEntry_10 (by decide) (fun h2 => ?_) (fun h2 => ?_)
    · replace hv := hv.1 h2
      refine e_iconst (pc := 17) (v := 0) dX11_isEntry_17 (by decide) ?_
      exact e_zreturn (pc := 18) dX11_isEntry_18 rfl (Or.inl rfl) ⟨r, hW, _, rfl, hv⟩
    · replace hv := hv.2 h2
      refine e_iconst (pc := 13) (v := 1) dX11_isEntry_13 (by decide) ?_
      refine e_goto (pc := 14) (tgt := 18) dX11_isEntry_14 (by decide) ?_
      exact e_zreturn (pc := 18) dX11_isEntry_18 rfl (Or.inr rfl) ⟨r, hW, _, rfl, hv⟩
set_option maxRecDepth 100000 in
set_option maxHeartbeats 4000000 in
theorem pX11_wrong (X : Cx) (w0 : Wd) (m : Nat) (hS : Sh w0 m) (A : Int32 → Rs → Prop) (a1 : Int32) (a2 : Int32) (r : Rs)
    (hv : ((a1 < 0) → A 1 r) ∧ ((¬ a1 < 0) → ((a1 < (sS r 2)) → ((a2 < 0) → A 2 r) ∧ ((¬ a2 < 0) → vp_in a1 40 ∧ ((a2 < (rI r 0 a1.toNatClampNeg)) → vp_in ((60 * a1) + a2) 2400 ∧ (((rI r 1 ((60 * a1) + a2).toNatClampNeg) = 0) → A 0 r) ∧ ((¬ (rI r 1 ((60 * a1) + a2).toNatClampNeg) = 0) → A 3 r)) ∧ ((¬ a2 < (rI r 0 a1.toNatClampNeg)) → A 2 r))) ∧ ((¬ a1 < (sS r 2)) → A 1 r))) :
    CM X w0 m bX11_wrong mX11_wrong [vI a1, vI a2] r (pI A) := by
  intro w hW
  refine Ct.of (Q := qM w0 m (pI A)) (lv := [(0, vR m), (1, vI a1), (2, vI a2)]) rfl (Nat.le_of_ble_eq_true rfl) rfl ?_
  refine e_iload_n (pc := 0) (i := 1) dX11_wrong_0 rfl rfl ?_
  refine e_if_lt (pc := 1) (tgt := 12) dX11_wrong_1 (by decide) (fun h1 => ?_) (fun h1 => ?_)
  · replace hv := hv.1 h1
    refine e_iconst (pc := 12) (v := 1) dX11_wrong_12 (by decide) ?_
    exact e_ireturn (pc := 13) dX11_wrong_13 rfl ⟨r, hW, _, rfl, hv⟩
  · replace hv := hv.2 h1
    refine e_iload_n (pc := 4) (i := 1) dX11_wrong_4 rfl rfl ?_
    refine e_aload_n (pc := 5) (i := 0) dX11_wrong_5 rfl rfl ?_
    refine n_getS (pc := 6) hS hW 2 dX11_wrong_6 fRX11_172 rfl ?_
    refine e_icmp_lt (pc := 9) (tgt := 14) dX11_wrong_9 (by decide) (fun h2 => ?_) (fun h2 => ?_)
    · replace hv := hv.1 h2
      refine e_iload_n (pc := 14) (i := 2) dX11_wrong_14 rfl rfl ?_
      refine e_if_lt (pc := 15) (tgt := 28) dX11_wrong_15 (by decide) (fun h3 => ?_) (fun h3 => ?_)
      · replace hv := hv.1 h3
        refine e_iconst (pc := 28) (v := 2) dX11_wrong_28 (by decide) ?_
        exact e_ireturn (pc := 29) dX11_wrong_29 rfl ⟨r, hW, _, rfl, hv⟩
      · replace hv := hv.2 h3
        refine e_iload_n (pc := 18) (i := 2) dX11_wrong_18 rfl rfl ?_
        refine e_aload_n (pc := 19) (i := 0) dX11_wrong_19 rfl rfl ?_
        refine n_get (pc := 20) hS hW 0 dX11_wrong_20 fRX11_7 rfl ?_
        refine e_iload_n (pc := 23) (i := 1) dX11_wrong_23 rfl rfl ?_
        have hi4 : vp_in a1 40 := hv.1
        replace hv := hv.2
        refine n_iald (pc := 24) (wa := w) hS hW 0 dX11_wrong_24 (by decide) rfl hi4 rfl ?_
        refine e_icmp_lt (pc := 25) (tgt := 30) dX11_wrong_25 (by decide) (fun h5 => ?_) (fun h5 => ?_)
        · replace hv := hv.1 h5
          refine e_aload_n (pc := 30) (i := 0) dX11_wrong_30 rfl rfl ?_
          refine n_get (pc := 31) hS hW 1 dX11_wrong_31 fRX11_13 rfl ?_
          refine e_bipush (pc := 34) (v := 60) dX11_wrong_34 (by decide) ?_
          refine e_iload_n (pc := 36) (i := 1) dX11_wrong_36 rfl rfl ?_
          refine e_imul (pc := 37) dX11_wrong_37 ?_
          refine e_iload_n (pc := 38) (i := 2) dX11_wrong_38 rfl rfl ?_
          refine e_iadd (pc := 39) dX11_wrong_39 ?_
          have hi6 : vp_in ((60 * a1) + a2) 2400 := hv.1
          replace hv := hv.2
          refine n_zald (pc := 40) (wa := w) hS hW 1 dX11_wrong_40 (by decide) rfl hi6 rfl ?_
          refine e_if_eq (pc := 41) (tgt := 48) dX11_wrong_41 (by decide) (fun h7 => ?_) (fun h7 => ?_)
          · replace hv := hv.1 h7
            refine e_iconst (pc := 48) (v := 0) dX11_wrong_48 (by decide) ?_
            exact e_ireturn (pc := 49) dX11_wrong_49 rfl ⟨r, hW, _, rfl, hv⟩
          · replace hv := hv.2 h7
            refine e_iconst (pc := 44) (v := 3) dX11_wrong_44 (by decide) ?_
            refine e_goto (pc := 45) (tgt := 49) dX11_wrong_45 (by decide) ?_
            exact e_ireturn (pc := 49) dX11_wrong_49 rfl ⟨r, hW, _, rfl, hv⟩
        · replace hv := hv.2 h5
          refine e_iconst (pc := 28) (v := 2) dX11_wrong_28 (by decide) ?_
          exact e_ireturn (pc := 29) dX11_wrong_29 rfl ⟨r, hW, _, rfl, hv⟩
    · replace hv := hv.2 h2
      refine e_iconst (pc := 12) (v := 1) dX11_wrong_12 (by decide) ?_
      exact e_ireturn (pc := 13) dX11_wrong_13 rfl ⟨r, hW, _, rfl, hv⟩
set_option maxRecDepth 100000 in
set_option maxHeartbeats 4000000 in
theorem pX11_view (X : Cx) (w0 : Wd) (m : Nat) (hS : Sh w0 m) (A : Rs → Prop) (a1 : Int32) (a2 : Int32) (r : Rs)
    (hv : ∀ r1 : Rs, r1 = uS r 45 a1 → ∀ r3 : Rs, r3 = uS r1 46 a2 → A r3) :
    CM X w0 m bX11_view mX11_view [vI a1, vI a2] r (pV A) := by
  intro w hW
  refine Ct.of (Q := qM w0 m (pV A)) (lv := [(0, vR m), (1, vI a1), (2, vI a2)]) rfl (Nat.le_of_ble_eq_true rfl) rfl ?_
  refine e_aload_n (pc := 0) (i := 0) dX11_view_0 rfl rfl ?_
  refine e_iload_n (pc := 1) (i := 1) dX11_view_1 rfl rfl ?_
  refine n_putS (pc := 2) hS hW 45 dX11_view_2 fRX11_175 rfl rfl (fun w2 hw2 => ?_)
  obtain ⟨r1, er1⟩ : ∃ r1 : Rs, r1 = uS r 45 a1 := ⟨_, rfl⟩
  replace hv := hv r1 er1
  rw [← er1] at hw2
  refine e_aload_n (pc := 5) (i := 0) dX11_view_5 rfl rfl ?_
  refine e_iload_n (pc := 6) (i := 2) dX11_view_6 rfl rfl ?_
  refine n_putS (pc := 7) hS hw2 46 dX11_view_7 fRX11_178 rfl rfl (fun w4 hw4 => ?_)
  obtain ⟨r3, er3⟩ : ∃ r3 : Rs, r3 = uS r1 46 a2 := ⟨_, rfl⟩
  replace hv := hv r3 er3
  rw [← er3] at hw4
  exact e_vreturn (pc := 10) dX11_view_10 rfl ⟨r3, hw4, rfl, hv⟩
set_option maxRecDepth 100000 in
set_option maxHeartbeats 4000000 in
theorem pX11_now (X : Cx) (w0 : Wd) (m : Nat) (hS : Sh w0 m) (A : Rs → Prop)  (r : Rs)
    (hv : CM X w0 m bX11_view mX11_view [vI (sS r 39), vI (sS r 39)] r (pV fun r3 => A r3)) :
    CM X w0 m bX11_now mX11_now [] r (pV A) := by
  intro w hW
  refine Ct.of (Q := qM w0 m (pV A)) (lv := [(0, vR m)]) rfl (Nat.le_of_ble_eq_true rfl) rfl ?_
  refine e_aload_n (pc := 0) (i := 0) dX11_now_0 rfl rfl ?_
  refine e_aload_n (pc := 1) (i := 0) dX11_now_1 rfl rfl ?_
  refine n_getS (pc := 2) hS hW 39 dX11_now_2 fRX11_166 rfl ?_
  refine e_aload_n (pc := 5) (i := 0) dX11_now_5 rfl rfl ?_
  refine n_getS (pc := 6) hS hW 39 dX11_now_6 fRX11_166 rfl ?_
  refine e_callV (pc := 9) (ci := 11) (st := []) (rc' := 0) (rs' := 0) (B' := bX11_view) [vI (sS r 39), vI (sS r 39)] dX11_now_9 vRX11_181 kX11_view (by decide) rfl (hW.K hS) rfl rfl (Nat.le_of_ble_eq_true rfl) ⟨Nat.le_of_ble_eq_true rfl, Nat.le_of_ble_eq_true rfl⟩ rfl rfl (hv w hW) (fun zx1 w2 hq => ?_)
  obtain ⟨r3, hw2, ex1, hv⟩ := hq
  subst ex1
  show EJ X mX11_now _ 0 0 _ _ [] w2
  exact e_vreturn (pc := 12) dX11_now_12 rfl ⟨r3, hw2, rfl, hv⟩
set_option maxRecDepth 100000 in
set_option maxHeartbeats 4000000 in
theorem pX11_counts (X : Cx) (w0 : Wd) (m : Nat) (hS : Sh w0 m) (A : Int32 → Rs → Prop) (a1 : Int32) (a2 : Int32) (r : Rs)
    (hv : ((a2 = (-1)) → A 0 r) ∧ ((¬ a2 = (-1)) → (((sS r 45) < a1) → A 0 r) ∧ ((¬ (sS r 45) < a1) → (((sS r 46) < a2) → A 0 r) ∧ ((¬ (sS r 46) < a2) → A 1 r)))) :
    CM X w0 m bX11_counts mX11_counts [vI a1, vI a2] r (pI A) := by
  intro w hW
  refine Ct.of (Q := qM w0 m (pI A)) (lv := [(0, vR m), (1, vI a1), (2, vI a2)]) rfl (Nat.le_of_ble_eq_true rfl) rfl ?_
  refine e_iload_n (pc := 0) (i := 2) dX11_counts_0 rfl rfl ?_
  refine e_iconst (pc := 1) (v := (-1)) dX11_counts_1 (by decide) ?_
  refine e_icmp_eq (pc := 2) (tgt := 25) dX11_counts_2 (by decide) (fun h1 => ?_) (fun h1 => ?_)
  · replace hv := hv.1 h1
    refine e_iconst (pc := 25) (v := 0) dX11_counts_25 (by decide) ?_
    exact e_zreturn (pc := 26) dX11_counts_26 rfl (Or.inl rfl) ⟨r, hW, _, rfl, hv⟩
  · replace hv := hv.2 h1
    refine e_iload_n (pc := 5) (i := 1) dX11_counts_5 rfl rfl ?_
    refine e_aload_n (pc := 6) (i := 0) dX11_counts_6 rfl rfl ?_
    refine n_getS (pc := 7) hS hW 45 dX11_counts_7 fRX11_175 rfl ?_
    refine e_icmp_gt (pc := 10) (tgt := 25) dX11_counts_10 (by decide) (fun h2 => ?_) (fun h2 => ?_)
    · replace hv := hv.1 h2
      refine e_iconst (pc := 25) (v := 0) dX11_counts_25 (by decide) ?_
      exact e_zreturn (pc := 26) dX11_counts_26 rfl (Or.inl rfl) ⟨r, hW, _, rfl, hv⟩
    · replace hv := hv.2 h2
      refine e_iload_n (pc := 13) (i := 2) dX11_counts_13 rfl rfl ?_
      refine e_aload_n (pc := 14) (i := 0) dX11_counts_14 rfl rfl ?_
      refine n_getS (pc := 15) hS hW 46 dX11_counts_15 fRX11_178 rfl ?_
      refine e_icmp_gt (pc := 18) (tgt := 25) dX11_counts_18 (by decide) (fun h3 => ?_) (fun h3 => ?_)
      · replace hv := hv.1 h3
        refine e_iconst (pc := 25) (v := 0) dX11_counts_25 (by decide) ?_
        exact e_zreturn (pc := 26) dX11_counts_26 rfl (Or.inl rfl) ⟨r, hW, _, rfl, hv⟩
      · replace hv := hv.2 h3
        refine e_iconst (pc := 21) (v := 1) dX11_counts_21 (by decide) ?_
        refine e_goto (pc := 22) (tgt := 26) dX11_counts_22 (by decide) ?_
        exact e_zreturn (pc := 26) dX11_counts_26 rfl (Or.inr rfl) ⟨r, hW, _, rfl, hv⟩
set_option maxRecDepth 100000 in
set_option maxHeartbeats 4000000 in
theorem pX11_lives (X : Cx) (w0 : Wd) (m : Nat) (hS : Sh w0 m) (A : Int32 → Rs → Prop) (a1 : Int32) (r : Rs)
    (hv : vp_in a1 301 ∧ vp_in (rI r 5 a1.toNatClampNeg) 301 ∧ vp_in (rI r 5 a1.toNatClampNeg) 301 ∧ CM X w0 m bX11_counts mX11_counts [vI (rI r 13 (rI r 5 a1.toNatClampNeg).toNatClampNeg), vI (rI r 14 (rI r 5 a1.toNatClampNeg).toNatClampNeg)] r (pI fun x4 r6 => ((x4 = 0) → A 0 r6) ∧ ((¬ x4 = 0) → vp_in (rI r 5 a1.toNatClampNeg) 301 ∧ vp_in (rI r 5 a1.toNatClampNeg) 301 ∧ CM X w0 m bX11_counts mX11_counts [vI (rI r6 15 (rI r 5 a1.toNatClampNeg).toNatClampNeg), vI (rI r6 16 (rI r 5 a1.toNatClampNeg).toNatClampNeg)] r6 (pI fun x10 r12 => ((¬ x10 = 0) → A 0 r12) ∧ ((x10 = 0) → A 1 r12))))) :
    CM X w0 m bX11_lives mX11_lives [vI a1] r (pI A) := by
  intro w hW
  refine Ct.of (Q := qM w0 m (pI A)) (lv := [(0, vR m), (1, vI a1)]) rfl (Nat.le_of_ble_eq_true rfl) rfl ?_
  refine e_aload_n (pc := 0) (i := 0) dX11_lives_0 rfl rfl ?_
  refine n_get (pc := 1) hS hW 5 dX11_lives_1 fRX11_23 rfl ?_
  refine e_iload_n (pc := 4) (i := 1) dX11_lives_4 rfl rfl ?_
  have hi1 : vp_in a1 301 := hv.1
  replace hv := hv.2
  refine n_iald (pc := 5) (wa := w) hS hW 5 dX11_lives_5 (by decide) rfl hi1 rfl ?_
  refine e_istore_n (pc := 6) (i := 2) (lv' := [(0, vR m), (1, vI a1), (2, vI (rI r 5 a1.toNatClampNeg))]) dX11_lives_6 rfl (by decide) rfl ?_
  refine e_aload_n (pc := 7) (i := 0) dX11_lives_7 rfl rfl ?_
  refine e_aload_n (pc := 8) (i := 0) dX11_lives_8 rfl rfl ?_
  refine n_get (pc := 9) hS hW 13 dX11_lives_9 fRX11_48 rfl ?_
  refine e_iload_n (pc := 12) (i := 2) dX11_lives_12 rfl rfl ?_
  have hi2 : vp_in (rI r 5 a1.toNatClampNeg) 301 := hv.1
  replace hv := hv.2
  refine n_iald (pc := 13) (wa := w) hS hW 13 dX11_lives_13 (by decide) rfl hi2 rfl ?_
  refine e_aload_n (pc := 14) (i := 0) dX11_lives_14 rfl rfl ?_
  refine n_get (pc := 15) hS hW 14 dX11_lives_15 fRX11_51 rfl ?_
  refine e_iload_n (pc := 18) (i := 2) dX11_lives_18 rfl rfl ?_
  have hi3 : vp_in (rI r 5 a1.toNatClampNeg) 301 := hv.1
  replace hv := hv.2
  refine n_iald (pc := 19) (wa := w) hS hW 14 dX11_lives_19 (by decide) rfl hi3 rfl ?_
  refine e_callV (pc := 20) (ci := 11) (st := []) (rc' := 0) (rs' := 0) (B' := bX11_counts) [vI (rI r 13 (rI r 5 a1.toNatClampNeg).toNatClampNeg), vI (rI r 14 (rI r 5 a1.toNatClampNeg).toNatClampNeg)] dX11_lives_20 vRX11_185 kX11_counts (by decide) rfl (hW.K hS) rfl rfl (Nat.le_of_ble_eq_true rfl) ⟨Nat.le_of_ble_eq_true rfl, Nat.le_of_ble_eq_true rfl⟩ rfl rfl (hv w hW) (fun zx4 w5 hq => ?_)
  obtain ⟨r6, hw5, x4, ex4, hv⟩ := hq
  subst ex4
  show EJ X mX11_lives _ 0 0 _ _ (vI x4 :: []) w5
  refine e_if_eq (pc := 23) (tgt := 49) dX11_lives_23 (by decide) (fun h7 => ?_) (fun h7 => ?_)
  · replace hv := hv.1 h7
    refine e_iconst (pc := 49) (v := 0) dX11_lives_49 (by decide) ?_
    exact e_zreturn (pc := 50) dX11_lives_50 rfl (Or.inl rfl) ⟨r6, hw5, _, rfl, hv⟩
  · replace hv := hv.2 h7
    refine e_aload_n (pc := 26) (i := 0) dX11_lives_26 rfl rfl ?_
    refine e_aload_n (pc := 27) (i := 0) dX11_lives_27 rfl rfl ?_
    refine n_get (pc := 28) hS hw5 15 dX11_lives_28 fRX11_54 rfl ?_
    refine e_iload_n (pc := 31) (i := 2) dX11_lives_31 rfl rfl ?_
    have hi8 : vp_in (rI r 5 a1.toNatClampNeg) 301 := hv.1
    replace hv := hv.2
    refine n_iald (pc := 32) (wa := w5) hS hw5 15 dX11_lives_32 (by decide) rfl hi8 rfl ?_
    refine e_aload_n (pc := 33) (i := 0) dX11_lives_33 rfl rfl ?_
    refine n_get (pc := 34) hS hw5 16 dX11_lives_34 fRX11_57 rfl ?_
    refine e_iload_n (pc := 37) (i := 2) dX11_lives_37 rfl rfl ?_
    have hi9 : vp_in (rI r 5 a1.toNatClampNeg) 301 := hv.1
    replace hv := hv.2
    refine n_iald (pc := 38) (wa := w5) hS hw5 16 dX11_lives_38 (by decide) rfl hi9 rfl ?_
    refine e_callV (pc := 39) (ci := 11) (st := []) (rc' := 0) (rs' := 0) (B' := bX11_counts) [vI (rI r6 15 (rI r 5 a1.toNatClampNeg).toNatClampNeg), vI (rI r6 16 (rI r 5 a1.toNatClampNeg).toNatClampNeg)] dX11_lives_39 vRX11_185 kX11_counts (by decide) rfl (hw5.K hS) rfl rfl (Nat.le_of_ble_eq_true rfl) ⟨Nat.le_of_ble_eq_true rfl, Nat.le_of_ble_eq_true rfl⟩ rfl rfl (hv w5 hw5) (fun zx10 w11 hq => ?_)
    obtain ⟨r12, hw11, x10, ex10, hv⟩ := hq
    subst ex10
    show EJ X mX11_lives _ 0 0 _ _ (vI x10 :: []) w11
    refine e_if_ne (pc := 42) (tgt := 49) dX11_lives_42 (by decide) (fun h13 => ?_) (fun h13 => ?_)
    · replace hv := hv.1 h13
      refine e_iconst (pc := 49) (v := 0) dX11_lives_49 (by decide) ?_
      exact e_zreturn (pc := 50) dX11_lives_50 rfl (Or.inl rfl) ⟨r12, hw11, _, rfl, hv⟩
    · replace hv := hv.2 h13
      refine e_iconst (pc := 45) (v := 1) dX11_lives_45 (by decide) ?_
      refine e_goto (pc := 46) (tgt := 50) dX11_lives_46 (by decide) ?_
      exact e_zreturn (pc := 50) dX11_lives_50 rfl (Or.inr rfl) ⟨r12, hw11, _, rfl, hv⟩
abbrev iX11_isOff_2 (X : Cx) (w0 : Wd) (m : Nat) (A : Int32 → Rs → Prop) (l2 : Int32) (l3 : Int32) (r : Rs) : Prop := ∀ w, Wm w0 m r w → EJ X mX11_isOff (vw X bX11_isOff (qM w0 m (pI A))) 0 0 2 [(0, vR m), (2, vI l2), (3, vI l3)] [] w
set_option maxRecDepth 100000 in
set_option maxHeartbeats 4000000 in
theorem rX11_isOff_2 (X : Cx) (w0 : Wd) (m : Nat) (hS : Sh w0 m) (A : Int32 → Rs → Prop) (l2 : Int32) (l3 : Int32) (r : Rs)
    (hv : ((l3 = 0) → A 0 r) ∧ ((¬ l3 = 0) → vp_in ((60 * l3) + l2) 18060 ∧ vp_in ((60 * l3) + l2) 18060 ∧ CM X w0 m bX11_counts mX11_counts [vI (rI r 28 ((60 * l3) + l2).toNatClampNeg), vI (rI r 29 ((60 * l3) + l2).toNatClampNeg)] r (pI fun x4 r6 => ((x4 = 0) → vp_in l3 301 ∧ iX11_isOff_2 X w0 m A l2 (rI r6 6 l3.toNatClampNeg) r6) ∧ ((¬ x4 = 0) → A 1 r6)))) :
    iX11_isOff_2 X w0 m A l2 l3 r := by
  intro w hW
  refine e_iload_n (pc := 2) (i := 3) dX11_isOff_2 rfl rfl ?_
  refine e_if_eq (pc := 3) (tgt := 47) dX11_isOff_3 (by decide) (fun h1 => ?_) (fun h1 => ?_)
  · replace hv := hv.1 h1
    refine e_iconst (pc := 47) (v := 0) dX11_isOff_47 (by decide) ?_
    exact e_zreturn (pc := 48) dX11_isOff_48 rfl (Or.inl rfl) ⟨r, hW, _, rfl, hv⟩
  · replace hv := hv.2 h1
    refine e_aload_n (pc := 6) (i := 0) dX11_isOff_6 rfl rfl ?_
    refine e_aload_n (pc := 7) (i := 0) dX11_isOff_7 rfl rfl ?_
    refine n_get (pc := 8) hS hW 28 dX11_isOff_8 fRX11_93 rfl ?_
    refine e_bipush (pc := 11) (v := 60) dX11_isOff_11 (by decide) ?_
    refine e_iload_n (pc := 13) (i := 3) dX11_isOff_13 rfl rfl ?_
    refine e_imul (pc := 14) dX11_isOff_14 ?_
    refine e_iload_n (pc := 15) (i := 2) dX11_isOff_15 rfl rfl ?_
    refine e_iadd (pc := 16) dX11_isOff_16 ?_
    have hi2 : vp_in ((60 * l3) + l2) 18060 := hv.1
    replace hv := hv.2
    refine n_iald (pc := 17) (wa := w) hS hW 28 dX11_isOff_17 (by decide) rfl hi2 rfl ?_
    refine e_aload_n (pc := 18) (i := 0) dX11_isOff_18 rfl rfl ?_
    refine n_get (pc := 19) hS hW 29 dX11_isOff_19 fRX11_96 rfl ?_
    refine e_bipush (pc := 22) (v := 60) dX11_isOff_22 (by decide) ?_
    refine e_iload_n (pc := 24) (i := 3) dX11_isOff_24 rfl rfl ?_
    refine e_imul (pc := 25) dX11_isOff_25 ?_
    refine e_iload_n (pc := 26) (i := 2) dX11_isOff_26 rfl rfl ?_
    refine e_iadd (pc := 27) dX11_isOff_27 ?_
    have hi3 : vp_in ((60 * l3) + l2) 18060 := hv.1
    replace hv := hv.2
    refine n_iald (pc := 28) (wa := w) hS hW 29 dX11_isOff_28 (by decide) rfl hi3 rfl ?_
    refine e_callV (pc := 29) (ci := 11) (st := []) (rc' := 0) (rs' := 0) (B' := bX11_counts) [vI (rI r 28 ((60 * l3) + l2).toNatClampNeg), vI (rI r 29 ((60 * l3) + l2).toNatClampNeg)] dX11_isOff_29 vRX11_185 kX11_counts (by decide) rfl (hW.K hS) rfl rfl (Nat.le_of_ble_eq_true rfl) ⟨Nat.le_of_ble_eq_true rfl, Nat.le_of_ble_eq_true rfl⟩ rfl rfl (hv w hW) (fun zx4 w5 hq => ?_)
    obtain ⟨r6, hw5, x4, ex4, hv⟩ := hq
    subst ex4
    show EJ X mX11_isOff _ 0 0 _ _ (vI x4 :: []) w5
    refine e_if_eq (pc := 32) (tgt := 37) dX11_isOff_32 (by decide) (fun h7 => ?_) (fun h7 => ?_)
    · replace hv := hv.1 h7
      refine e_aload_n (pc := 37) (i := 0) dX11_isOff_37 rfl rfl ?_
      refine n_get (pc := 38) hS hw5 6 dX11_isOff_38 fRX11_26 rfl ?_
      refine e_iload_n (pc := 41) (i := 3) dX11_isOff_41 rfl rfl ?_
      have hi8 : vp_in l3 301 := hv.1
      replace hv := hv.2
      refine n_iald (pc := 42) (wa := w5) hS hw5 6 dX11_isOff_42 (by decide) rfl hi8 rfl ?_
      refine e_istore_n (pc := 43) (i := 3) (lv' := [(0, vR m), (2, vI l2), (3, vI (rI r6 6 l3.toNatClampNeg))]) dX11_isOff_43 rfl (by decide) rfl ?_
      refine e_goto (pc := 44) (tgt := 2) dX11_isOff_44 (by decide) ?_
      exact hv w5 hw5
    · replace hv := hv.2 h7
      refine e_iconst (pc := 35) (v := 1) dX11_isOff_35 (by decide) ?_
      exact e_zreturn (pc := 36) dX11_isOff_36 rfl (Or.inr rfl) ⟨r6, hw5, _, rfl, hv⟩
set_option maxRecDepth 100000 in
set_option maxHeartbeats 4000000 in
theorem pX11_isOff (X : Cx) (w0 : Wd) (m : Nat) (hS : Sh w0 m) (A : Int32 → Rs → Prop) (a1 : Int32) (a2 : Int32) (r : Rs)
    (hv : iX11_isOff_2 X w0 m A a2 a1 r) :
    CM X w0 m bX11_isOff mX11_isOff [vI a1, vI a2] r (pI A) := by
  intro w hW
  refine Ct.of (Q := qM w0 m (pI A)) (lv := [(0, vR m), (1, vI a1), (2, vI a2)]) rfl (Nat.le_of_ble_eq_true rfl) rfl ?_
  refine e_iload_n (pc := 0) (i := 1) dX11_isOff_0 rfl rfl ?_
  refine e_istore_n (pc := 1) (i := 3) (lv' := [(0, vR m), (1, vI a1), (2, vI a2), (3, vI a1)]) dX11_isOff_1 rfl (by decide) rfl ?_
  exact EJ.drop [0, 2, 3] rfl (hv w hW)
set_option maxRecDepth 100000 in
set_option maxHeartbeats 4000000 in
theorem pX11_hasLeafOn (X : Cx) (w0 : Wd) (m : Nat) (hS : Sh w0 m) (A : Int32 → Rs → Prop) (n : Nat) (a1 : Int32) (a2 : Int32) (r : Rs)
    (hv : vp_in a1 301 ∧ ((¬ (rI r 9 a1.toNatClampNeg) = 0) → vp_in a1 301 ∧ CM X w0 m (n + 2, 0, 0) mX11_hasLeafOn [vI (rI r 9 a1.toNatClampNeg), vI a2] r (pI fun x4 r6 => ((¬ x4 = 0) → A 1 r6) ∧ ((x4 = 0) → vp_in a1 301 ∧ CM X w0 m (n + 2, 0, 0) mX11_hasLeafOn [vI ((rI r6 9 a1.toNatClampNeg) + 1), vI a2] r6 (pI fun x9 r11 => ((x9 = 0) → A 0 r11) ∧ ((¬ x9 = 0) → A 1 r11))))) ∧ (((rI r 9 a1.toNatClampNeg) = 0) → CM X w0 m bX11_isOff mX11_isOff [vI a1, vI a2] r (pI fun x13 r15 => ((¬ x13 = 0) → A 0 r15) ∧ ((x13 = 0) → A 1 r15)))) :
    CM X w0 m (n + 3, 0, 0) mX11_hasLeafOn [vI a1, vI a2] r (pI A) := by
  intro w hW
  refine Ct.of (Q := qM w0 m (pI A)) (lv := [(0, vR m), (1, vI a1), (2, vI a2)]) rfl (Nat.le_of_ble_eq_true rfl) rfl ?_
  refine e_aload_n (pc := 0) (i := 0) dX11_hasLeafOn_0 rfl rfl ?_
  refine n_get (pc := 1) hS hW 9 dX11_hasLeafOn_1 fRX11_36 rfl ?_
  refine e_iload_n (pc := 4) (i := 1) dX11_hasLeafOn_4 rfl rfl ?_
  have hi1 : vp_in a1 301 := hv.1
  replace hv := hv.2
  refine n_iald (pc := 5) (wa := w) hS hW 9 dX11_hasLeafOn_5 (by decide) rfl hi1 rfl ?_
  refine e_if_ne (pc := 6) (tgt := 24) dX11_hasLeafOn_6 (by decide) (fun h2 => ?_) (fun h2 => ?_)
  · replace hv := hv.1 h2
    refine e_aload_n (pc := 24) (i := 0) dX11_hasLeafOn_24 rfl rfl ?_
    refine e_aload_n (pc := 25) (i := 0) dX11_hasLeafOn_25 rfl rfl ?_
    refine n_get (pc := 26) hS hW 9 dX11_hasLeafOn_26 fRX11_36 rfl ?_
    refine e_iload_n (pc := 29) (i := 1) dX11_hasLeafOn_29 rfl rfl ?_
    have hi3 : vp_in a1 301 := hv.1
    replace hv := hv.2
    refine n_iald (pc := 30) (wa := w) hS hW 9 dX11_hasLeafOn_30 (by decide) rfl hi3 rfl ?_
    refine e_iload_n (pc := 31) (i := 2) dX11_hasLeafOn_31 rfl rfl ?_
    refine e_callV (pc := 32) (ci := 11) (st := []) (rc' := 0) (rs' := 0) (B' := (n + 2, 0, 0)) [vI (rI r 9 a1.toNatClampNeg), vI a2] dX11_hasLeafOn_32 vRX11_192 kX11_hasLeafOn (by decide) rfl (hW.K hS) rfl rfl (Nat.le_of_ble_eq_true rfl) ⟨(by show (n + 2) + 1 ≤ n + 3; omega), (by show 8 + (3 + 11) + 60 * (n + 2) ≤ 60 * (n + 3); omega)⟩ rfl rfl (hv w hW) (fun zx4 w5 hq => ?_)
    obtain ⟨r6, hw5, x4, ex4, hv⟩ := hq
    subst ex4
    show EJ X mX11_hasLeafOn _ 0 0 _ _ (vI x4 :: []) w5
    refine e_if_ne (pc := 35) (tgt := 54) dX11_hasLeafOn_35 (by decide) (fun h7 => ?_) (fun h7 => ?_)
    · replace hv := hv.1 h7
      refine e_iconst (pc := 54) (v := 1) dX11_hasLeafOn_54 (by decide) ?_
      refine e_goto (pc := 55) (tgt := 59) dX11_hasLeafOn_55 (by decide) ?_
      exact e_zreturn (pc := 59) dX11_hasLeafOn_59 rfl (Or.inr rfl) ⟨r6, hw5, _, rfl, hv⟩
    · replace hv := hv.2 h7
      refine e_aload_n (pc := 38) (i := 0) dX11_hasLeafOn_38 rfl rfl ?_
      refine e_aload_n (pc := 39) (i := 0) dX11_hasLeafOn_39 rfl rfl ?_
      refine n_get (pc := 40) hS hw5 9 dX11_hasLeafOn_40 fRX11_36 rfl ?_
      refine e_iload_n (pc := 43) (i := 1) dX11_hasLeafOn_43 rfl rfl ?_
      have hi8 : vp_in a1 301 := hv.1
      replace hv := hv.2
      refine n_iald (pc := 44) (wa := w5) hS hw5 9 dX11_hasLeafOn_44 (by decide) rfl hi8 rfl ?_
      refine e_iconst (pc := 45) (v := 1) dX11_hasLeafOn_45 (by decide) ?_
      refine e_iadd (pc := 46) dX11_hasLeafOn_46 ?_
      refine e_iload_n (pc := 47) (i := 2) dX11_hasLeafOn_47 rfl rfl ?_
      refine e_callV (pc := 48) (ci := 11) (st := []) (rc' := 0) (rs' := 0) (B' := (n + 2, 0, 0)) [vI ((rI r6 9 a1.toNatClampNeg) + 1), vI a2] dX11_hasLeafOn_48 vRX11_192 kX11_hasLeafOn (by decide) rfl (hw5.K hS) rfl rfl (Nat.le_of_ble_eq_true rfl) ⟨(by show (n + 2) + 1 ≤ n + 3; omega), (by show 8 + (3 + 11) + 60 * (n + 2) ≤ 60 * (n + 3); omega)⟩ rfl rfl (hv w5 hw5) (fun zx9 w10 hq => ?_)
      obtain ⟨r11, hw10, x9, ex9, hv⟩ := hq
      subst ex9
      show EJ X mX11_hasLeafOn _ 0 0 _ _ (vI x9 :: []) w10
      refine e_if_eq (pc := 51) (tgt := 58) dX11_hasLeafOn_51 (by decide) (fun h12 => ?_) (fun h12 => ?_)
      · replace hv := hv.1 h12
        refine e_iconst (pc := 58) (v := 0) dX11_hasLeafOn_58 (by decide) ?_
        exact e_zreturn (pc := 59) dX11_hasLeafOn_59 rfl (Or.inl rfl) ⟨r11, hw10, _, rfl, hv⟩
      · replace hv := hv.2 h12
        refine e_iconst (pc := 54) (v := 1) dX11_hasLeafOn_54 (by decide) ?_
        refine e_goto (pc := 55) (tgt := 59) dX11_hasLeafOn_55 (by decide) ?_
        exact e_zreturn (pc := 59) dX11_hasLeafOn_59 rfl (Or.inr rfl) ⟨r11, hw10, _, rfl, hv⟩
  · replace hv := hv.2 h2
    refine e_aload_n (pc := 9) (i := 0) dX11_hasLeafOn_9 rfl rfl ?_
    refine e_iload_n (pc := 10) (i := 1) dX11_hasLeafOn_10 rfl rfl ?_
    refine e_iload_n (pc := 11) (i := 2) dX11_hasLeafOn_11 rfl rfl ?_
    refine e_callV (pc := 12) (ci := 11) (st := []) (rc' := 0) (rs' := 0) (B' := bX11_isOff) [vI a1, vI a2] dX11_hasLeafOn_12 vRX11_189 kX11_isOff (by decide) rfl (hW.K hS) rfl rfl (Nat.le_of_ble_eq_true rfl) ⟨(by show 2 + 1 ≤ n + 3; omega), (by show 8 + (4 + 11) + 60 * 2 ≤ 60 * (n + 3); omega)⟩ rfl rfl (hv w hW) (fun zx13 w14 hq => ?_)
    obtain ⟨r15, hw14, x13, ex13, hv⟩ := hq
    subst ex13
    show EJ X mX11_hasLeafOn _ 0 0 _ _ (vI x13 :: []) w14
    refine e_if_ne (pc := 15) (tgt := 22) dX11_hasLeafOn_15 (by decide) (fun h16 => ?_) (fun h16 => ?_)
    · replace hv := hv.1 h16
      refine e_iconst (pc := 22) (v := 0) dX11_hasLeafOn_22 (by decide) ?_
      exact e_zreturn (pc := 23) dX11_hasLeafOn_23 rfl (Or.inl rfl) ⟨r15, hw14, _, rfl, hv⟩
    · replace hv := hv.2 h16
      refine e_iconst (pc := 18) (v := 1) dX11_hasLeafOn_18 (by decide) ?_
      refine e_goto (pc := 19) (tgt := 23) dX11_hasLeafOn_19 (by decide) ?_
      exact e_zreturn (pc := 23) dX11_hasLeafOn_23 rfl (Or.inr rfl) ⟨r15, hw14, _, rfl, hv⟩
set_option maxRecDepth 100000 in
set_option maxHeartbeats 4000000 in
theorem pX11_lies (X : Cx) (w0 : Wd) (m : Nat) (hS : Sh w0 m) (A : Int32 → Rs → Prop) (a1 : Int32) (a2 : Int32) (r : Rs)
    (hv : vp_in a1 301 ∧ vp_in a1 301 ∧ vp_in (rI r 5 a1.toNatClampNeg) 301 ∧ (((lg_cmp (((rJ r 10 (rI r 5 a1.toNatClampNeg).toNatClampNeg) >>> (a2.toInt64 &&& 63)) &&& 1) 0) = 0) → A 0 r) ∧ ((¬ (lg_cmp (((rJ r 10 (rI r 5 a1.toNatClampNeg).toNatClampNeg) >>> (a2.toInt64 &&& 63)) &&& 1) 0) = 0) → vp_in ((60 * (rI r 4 a1.toNatClampNeg)) + a2) 2400 ∧ (((rI r 1 ((60 * (rI r 4 a1.toNatClampNeg)) + a2).toNatClampNeg) = 0) → CM X w0 m bX11_lives mX11_lives [vI a1] r (pI fun x7 r9 => ((x7 = 0) → A 0 r9) ∧ ((¬ x7 = 0) → CM X w0 m (303, 0, 0) mX11_hasLeafOn [vI a1, vI a2] r9 (pI fun x11 r13 => ((x11 = 0) → A 0 r13) ∧ ((¬ x11 = 0) → A 1 r13))))) ∧ ((¬ (rI r 1 ((60 * (rI r 4 a1.toNatClampNeg)) + a2).toNatClampNeg) = 0) → A 0 r))) :
    CM X w0 m bX11_lies mX11_lies [vI a1, vI a2] r (pI A) := by
  intro w hW
  refine Ct.of (Q := qM w0 m (pI A)) (lv := [(0, vR m), (1, vI a1), (2, vI a2)]) rfl (Nat.le_of_ble_eq_true rfl) rfl ?_
  refine e_aload_n (pc := 0) (i := 0) dX11_lies_0 rfl rfl ?_
  refine n_get (pc := 1) hS hW 5 dX11_lies_1 fRX11_23 rfl ?_
  refine e_iload_n (pc := 4) (i := 1) dX11_lies_4 rfl rfl ?_
  have hi1 : vp_in a1 301 := hv.1
  replace hv := hv.2
  refine n_iald (pc := 5) (wa := w) hS hW 5 dX11_lies_5 (by decide) rfl hi1 rfl ?_
  refine e_istore_n (pc := 6) (i := 3) (lv' := [(0, vR m), (1, vI a1), (2, vI a2), (3, vI (rI r 5 a1.toNatClampNeg))]) dX11_lies_6 rfl (by decide) rfl ?_
  refine e_aload_n (pc := 7) (i := 0) dX11_lies_7 rfl rfl ?_
  refine n_get (pc := 8) hS hW 4 dX11_lies_8 fRX11_20 rfl ?_
  refine e_iload_n (pc := 11) (i := 1) dX11_lies_11 rfl rfl ?_
  have hi2 : vp_in a1 301 := hv.1
  replace hv := hv.2
  refine n_iald (pc := 12) (wa := w) hS hW 4 dX11_lies_12 (by decide) rfl hi2 rfl ?_
  refine e_istore (pc := 13) (i := 4) (lv' := [(0, vR m), (1, vI a1), (2, vI a2), (3, vI (rI r 5 a1.toNatClampNeg)), (4, vI (rI r 4 a1.toNatClampNeg))]) dX11_lies_13 (by decide) rfl ?_
  refine e_aload_n (pc := 15) (i := 0) dX11_lies_15 rfl rfl ?_
  refine n_get (pc := 16) hS hW 10 dX11_lies_16 fRX11_39 rfl ?_
  refine e_iload_n (pc := 19) (i := 3) dX11_lies_19 rfl rfl ?_
  have hi3 : vp_in (rI r 5 a1.toNatClampNeg) 301 := hv.1
  replace hv := hv.2
  refine n_lald (pc := 20) (wa := w) hS hW 10 dX11_lies_20 (by decide) rfl hi3 rfl ?_
  refine e_iload_n (pc := 21) (i := 2) dX11_lies_21 rfl rfl ?_
  refine e_lshr (pc := 22) dX11_lies_22 ?_
  refine e_lconst (pc := 23) (v := 1) dX11_lies_23 (by decide) ?_
  refine e_land (pc := 24) dX11_lies_24 ?_
  refine e_lconst (pc := 25) (v := 0) dX11_lies_25 (by decide) ?_
  refine e_lcmp (pc := 26) dX11_lies_26 ?_
  refine e_if_eq (pc := 27) (tgt := 45) dX11_lies_27 (by decide) (fun h4 => ?_) (fun h4 => ?_)
  · replace hv := hv.1 h4
    refine e_iconst (pc := 45) (v := 0) dX11_lies_45 (by decide) ?_
    exact e_zreturn (pc := 46) dX11_lies_46 rfl (Or.inl rfl) ⟨r, hW, _, rfl, hv⟩
  · replace hv := hv.2 h4
    refine e_aload_n (pc := 30) (i := 0) dX11_lies_30 rfl rfl ?_
    refine n_get (pc := 31) hS hW 1 dX11_lies_31 fRX11_13 rfl ?_
    refine e_bipush (pc := 34) (v := 60) dX11_lies_34 (by decide) ?_
    refine e_iload (pc := 36) (i := 4) dX11_lies_36 rfl ?_
    refine e_imul (pc := 38) dX11_lies_38 ?_
    refine e_iload_n (pc := 39) (i := 2) dX11_lies_39 rfl rfl ?_
    refine e_iadd (pc := 40) dX11_lies_40 ?_
    have hi5 : vp_in ((60 * (rI r 4 a1.toNatClampNeg)) + a2) 2400 := hv.1
    replace hv := hv.2
    refine n_zald (pc := 41) (wa := w) hS hW 1 dX11_lies_41 (by decide) rfl hi5 rfl ?_
    refine e_if_eq (pc := 42) (tgt := 47) dX11_lies_42 (by decide) (fun h6 => ?_) (fun h6 => ?_)
    · replace hv := hv.1 h6
      refine e_aload_n (pc := 47) (i := 0) dX11_lies_47 rfl rfl ?_
      refine e_iload_n (pc := 48) (i := 1) dX11_lies_48 rfl rfl ?_
      refine e_callV (pc := 49) (ci := 11) (st := []) (rc' := 0) (rs' := 0) (B' := bX11_lives) [vI a1] dX11_lies_49 vRX11_195 kX11_lives (by decide) rfl (hW.K hS) rfl rfl (Nat.le_of_ble_eq_true rfl) ⟨Nat.le_of_ble_eq_true rfl, Nat.le_of_ble_eq_true rfl⟩ rfl rfl (hv w hW) (fun zx7 w8 hq => ?_)
      obtain ⟨r9, hw8, x7, ex7, hv⟩ := hq
      subst ex7
      show EJ X mX11_lies _ 0 0 _ _ (vI x7 :: []) w8
      refine e_if_eq (pc := 52) (tgt := 68) dX11_lies_52 (by decide) (fun h10 => ?_) (fun h10 => ?_)
      · replace hv := hv.1 h10
        refine e_iconst (pc := 68) (v := 0) dX11_lies_68 (by decide) ?_
        exact e_zreturn (pc := 69) dX11_lies_69 rfl (Or.inl rfl) ⟨r9, hw8, _, rfl, hv⟩
      · replace hv := hv.2 h10
        refine e_aload_n (pc := 55) (i := 0) dX11_lies_55 rfl rfl ?_
        refine e_iload_n (pc := 56) (i := 1) dX11_lies_56 rfl rfl ?_
        refine e_iload_n (pc := 57) (i := 2) dX11_lies_57 rfl rfl ?_
        refine e_callV (pc := 58) (ci := 11) (st := []) (rc' := 0) (rs' := 0) (B' := (303, 0, 0)) [vI a1, vI a2] dX11_lies_58 vRX11_192 kX11_hasLeafOn (by decide) rfl (hw8.K hS) rfl rfl (Nat.le_of_ble_eq_true rfl) ⟨Nat.le_of_ble_eq_true rfl, Nat.le_of_ble_eq_true rfl⟩ rfl rfl (hv w8 hw8) (fun zx11 w12 hq => ?_)
        obtain ⟨r13, hw12, x11, ex11, hv⟩ := hq
        subst ex11
        show EJ X mX11_lies _ 0 0 _ _ (vI x11 :: []) w12
        refine e_if_eq (pc := 61) (tgt := 68) dX11_lies_61 (by decide) (fun h14 => ?_) (fun h14 => ?_)
        · replace hv := hv.1 h14
          refine e_iconst (pc := 68) (v := 0) dX11_lies_68 (by decide) ?_
          exact e_zreturn (pc := 69) dX11_lies_69 rfl (Or.inl rfl) ⟨r13, hw12, _, rfl, hv⟩
        · replace hv := hv.2 h14
          refine e_iconst (pc := 64) (v := 1) dX11_lies_64 (by decide) ?_
          refine e_goto (pc := 65) (tgt := 69) dX11_lies_65 (by decide) ?_
          exact e_zreturn (pc := 69) dX11_lies_69 rfl (Or.inr rfl) ⟨r13, hw12, _, rfl, hv⟩
    · replace hv := hv.2 h6
      refine e_iconst (pc := 45) (v := 0) dX11_lies_45 (by decide) ?_
      exact e_zreturn (pc := 46) dX11_lies_46 rfl (Or.inl rfl) ⟨r, hW, _, rfl, hv⟩
set_option maxRecDepth 100000 in
set_option maxHeartbeats 4000000 in
theorem pX11_gather (X : Cx) (w0 : Wd) (m : Nat) (hS : Sh w0 m) (A : Rs → Prop) (n : Nat) (a1 : Int32) (r : Rs)
    (hv : vp_in a1 301 ∧ ((¬ (rI r 9 a1.toNatClampNeg) = 0) → vp_in a1 301 ∧ CM X w0 m (n + 1, 0, 0) mX11_gather [vI (rI r 9 a1.toNatClampNeg)] r (pV fun r6 => vp_in a1 301 ∧ CM X w0 m (n + 1, 0, 0) mX11_gather [vI ((rI r6 9 a1.toNatClampNeg) + 1)] r6 (pV fun r10 => A r10))) ∧ (((rI r 9 a1.toNatClampNeg) = 0) → vp_in (sS r 48) 301 ∧ ∀ r12 : Rs, r12 = uI r 47 (sS r 48).toNatClampNeg a1 → ∀ r14 : Rs, r14 = uS r12 48 ((sS r12 48) + 1) → A r14)) :
    CM X w0 m (n + 2, 0, 0) mX11_gather [vI a1] r (pV A) := by
  intro w hW
  refine Ct.of (Q := qM w0 m (pV A)) (lv := [(0, vR m), (1, vI a1)]) rfl (Nat.le_of_ble_eq_true rfl) rfl ?_
  refine e_aload_n (pc := 0) (i := 0) dX11_gather_0 rfl rfl ?_
  refine n_get (pc := 1) hS hW 9 dX11_gather_1 fRX11_36 rfl ?_
  refine e_iload_n (pc := 4) (i := 1) dX11_gather_4 rfl rfl ?_
  have hi1 : vp_in a1 301 := hv.1
  replace hv := hv.2
  refine n_iald (pc := 5) (wa := w) hS hW 9 dX11_gather_5 (by decide) rfl hi1 rfl ?_
  refine e_if_ne (pc := 6) (tgt := 30) dX11_gather_6 (by decide) (fun h2 => ?_) (fun h2 => ?_)
  · replace hv := hv.1 h2
    refine e_aload_n (pc := 30) (i := 0) dX11_gather_30 rfl rfl ?_
    refine e_aload_n (pc := 31) (i := 0) dX11_gather_31 rfl rfl ?_
    refine n_get (pc := 32) hS hW 9 dX11_gather_32 fRX11_36 rfl ?_
    refine e_iload_n (pc := 35) (i := 1) dX11_gather_35 rfl rfl ?_
    have hi3 : vp_in a1 301 := hv.1
    replace hv := hv.2
    refine n_iald (pc := 36) (wa := w) hS hW 9 dX11_gather_36 (by decide) rfl hi3 rfl ?_
    refine e_callV (pc := 37) (ci := 11) (st := []) (rc' := 0) (rs' := 0) (B' := (n + 1, 0, 0)) [vI (rI r 9 a1.toNatClampNeg)] dX11_gather_37 vRX11_202 kX11_gather (by decide) rfl (hW.K hS) rfl rfl (Nat.le_of_ble_eq_true rfl) ⟨(by show (n + 1) + 1 ≤ n + 2; omega), (by show 8 + (2 + 11) + 60 * (n + 1) ≤ 60 * (n + 2); omega)⟩ rfl rfl (hv w hW) (fun zx4 w5 hq => ?_)
    obtain ⟨r6, hw5, ex4, hv⟩ := hq
    subst ex4
    show EJ X mX11_gather _ 0 0 _ _ [] w5
    refine e_aload_n (pc := 40) (i := 0) dX11_gather_40 rfl rfl ?_
    refine e_aload_n (pc := 41) (i := 0) dX11_gather_41 rfl rfl ?_
    refine n_get (pc := 42) hS hw5 9 dX11_gather_42 fRX11_36 rfl ?_
    refine e_iload_n (pc := 45) (i := 1) dX11_gather_45 rfl rfl ?_
    have hi7 : vp_in a1 301 := hv.1
    replace hv := hv.2
    refine n_iald (pc := 46) (wa := w5) hS hw5 9 dX11_gather_46 (by decide) rfl hi7 rfl ?_
    refine e_iconst (pc := 47) (v := 1) dX11_gather_47 (by decide) ?_
    refine e_iadd (pc := 48) dX11_gather_48 ?_
    refine e_callV (pc := 49) (ci := 11) (st := []) (rc' := 0) (rs' := 0) (B' := (n + 1, 0, 0)) [vI ((rI r6 9 a1.toNatClampNeg) + 1)] dX11_gather_49 vRX11_202 kX11_gather (by decide) rfl (hw5.K hS) rfl rfl (Nat.le_of_ble_eq_true rfl) ⟨(by show (n + 1) + 1 ≤ n + 2; omega), (by show 8 + (2 + 11) + 60 * (n + 1) ≤ 60 * (n + 2); omega)⟩ rfl rfl (hv w5 hw5) (fun zx8 w9 hq => ?_)
    obtain ⟨r10, hw9, ex8, hv⟩ := hq
    subst ex8
    show EJ X mX11_gather _ 0 0 _ _ [] w9
    exact e_vreturn (pc := 52) dX11_gather_52 rfl ⟨r10, hw9, rfl, hv⟩
  · replace hv := hv.2 h2
    refine e_aload_n (pc := 9) (i := 0) dX11_gather_9 rfl rfl ?_
    refine n_get (pc := 10) hS hW 47 dX11_gather_10 fRX11_124 rfl ?_
    refine e_aload_n (pc := 13) (i := 0) dX11_gather_13 rfl rfl ?_
    refine n_getS (pc := 14) hS hW 48 dX11_gather_14 fRX11_199 rfl ?_
    refine e_iload_n (pc := 17) (i := 1) dX11_gather_17 rfl rfl ?_
    have hi11 : vp_in (sS r 48) 301 := hv.1
    replace hv := hv.2
    refine n_iast (pc := 18) (wa := w) hS hW 47 dX11_gather_18 (by decide) rfl hi11 rfl (fun w13 hw13 => ?_)
    obtain ⟨r12, er12⟩ : ∃ r12 : Rs, r12 = uI r 47 (sS r 48).toNatClampNeg a1 := ⟨_, rfl⟩
    replace hv := hv r12 er12
    rw [← er12] at hw13
    refine e_aload_n (pc := 19) (i := 0) dX11_gather_19 rfl rfl ?_
    refine e_dup (pc := 20) dX11_gather_20 rfl ?_
    refine n_getS (pc := 21) hS hw13 48 dX11_gather_21 fRX11_199 rfl ?_
    refine e_iconst (pc := 24) (v := 1) dX11_gather_24 (by decide) ?_
    refine e_iadd (pc := 25) dX11_gather_25 ?_
    refine n_putS (pc := 26) hS hw13 48 dX11_gather_26 fRX11_199 rfl rfl (fun w15 hw15 => ?_)
    obtain ⟨r14, er14⟩ : ∃ r14 : Rs, r14 = uS r12 48 ((sS r12 48) + 1) := ⟨_, rfl⟩
    replace hv := hv r14 er14
    rw [← er14] at hw15
    exact e_vreturn (pc := 29) dX11_gather_29 rfl ⟨r14, hw15, rfl, hv⟩
set_option maxRecDepth 100000 in
set_option maxHeartbeats 4000000 in
theorem pX11_leavesOf (X : Cx) (w0 : Wd) (m : Nat) (hS : Sh w0 m) (A : Rs → Prop) (a1 : Int32) (r : Rs)
    (hv : ∀ r1 : Rs, r1 = uS r 48 0 → CM X w0 m (302, 0, 0) mX11_gather [vI a1] r1 (pV fun r5 => A r5)) :
    CM X w0 m bX11_leavesOf mX11_leavesOf [vI a1] r (pV A) := by
  intro w hW
  refine Ct.of (Q := qM w0 m (pV A)) (lv := [(0, vR m), (1, vI a1)]) rfl (Nat.le_of_ble_eq_true rfl) rfl ?_
  refine e_aload_n (pc := 0) (i := 0) dX11_leavesOf_0 rfl rfl ?_
  refine e_iconst (pc := 1) (v := 0) dX11_leavesOf_1 (by decide) ?_
  refine n_putS (pc := 2) hS hW 48 dX11_leavesOf_2 fRX11_199 rfl rfl (fun w2 hw2 => ?_)
  obtain ⟨r1, er1⟩ : ∃ r1 : Rs, r1 = uS r 48 0 := ⟨_, rfl⟩
  replace hv := hv r1 er1
  rw [← er1] at hw2
  refine e_aload_n (pc := 5) (i := 0) dX11_leavesOf_5 rfl rfl ?_
  refine e_iload_n (pc := 6) (i := 1) dX11_leavesOf_6 rfl rfl ?_
  refine e_callV (pc := 7) (ci := 11) (st := []) (rc' := 0) (rs' := 0) (B' := (302, 0, 0)) [vI a1] dX11_leavesOf_7 vRX11_202 kX11_gather (by decide) rfl (hw2.K hS) rfl rfl (Nat.le_of_ble_eq_true rfl) ⟨Nat.le_of_ble_eq_true rfl, Nat.le_of_ble_eq_true rfl⟩ rfl rfl (hv w2 hw2) (fun zx3 w4 hq => ?_)
  obtain ⟨r5, hw4, ex3, hv⟩ := hq
  subst ex3
  show EJ X mX11_leavesOf _ 0 0 _ _ [] w4
  exact e_vreturn (pc := 10) dX11_leavesOf_10 rfl ⟨r5, hw4, rfl, hv⟩
abbrev iX11_sumBelow_10 (X : Cx) (w0 : Wd) (m : Nat) (A : Int64 → Rs → Prop) (l2 : Int64) (l4 : Int32) (r : Rs) : Prop := ∀ w, Wm w0 m r w → EJ X mX11_sumBelow (vw X bX11_sumBelow (qM w0 m (pJ A))) 0 0 10 [(0, vR m), (2, vJ l2), (4, vI l4)] [] w
set_option maxRecDepth 100000 in
set_option maxHeartbeats 4000000 in
theorem rX11_sumBelow_10 (X : Cx) (w0 : Wd) (m : Nat) (hS : Sh w0 m) (A : Int64 → Rs → Prop) (l2 : Int64) (l4 : Int32) (r : Rs)
    (hv : (((sS r 48) ≤ l4) → A l2 r) ∧ ((¬ (sS r 48) ≤ l4) → vp_in l4 301 ∧ vp_in (rI r 47 l4.toNatClampNeg) 301 ∧ iX11_sumBelow_10 X w0 m A (l2 + (rJ r 8 (rI r 47 l4.toNatClampNeg).toNatClampNeg)) (l4 + 1) r)) :
    iX11_sumBelow_10 X w0 m A l2 l4 r := by
  intro w hW
  refine e_iload (pc := 10) (i := 4) dX11_sumBelow_10 rfl ?_
  refine e_aload_n (pc := 12) (i := 0) dX11_sumBelow_12 rfl rfl ?_
  refine n_getS (pc := 13) hS hW 48 dX11_sumBelow_13 fRX11_199 rfl ?_
  refine e_icmp_ge (pc := 16) (tgt := 40) dX11_sumBelow_16 (by decide) (fun h1 => ?_) (fun h1 => ?_)
  · replace hv := hv.1 h1
    refine e_lload_n (pc := 40) (i := 2) dX11_sumBelow_40 rfl rfl ?_
    exact e_lreturn (pc := 41) dX11_sumBelow_41 rfl ⟨r, hW, _, rfl, hv⟩
  · replace hv := hv.2 h1
    refine e_lload_n (pc := 19) (i := 2) dX11_sumBelow_19 rfl rfl ?_
    refine e_aload_n (pc := 20) (i := 0) dX11_sumBelow_20 rfl rfl ?_
    refine n_get (pc := 21) hS hW 8 dX11_sumBelow_21 fRX11_32 rfl ?_
    refine e_aload_n (pc := 24) (i := 0) dX11_sumBelow_24 rfl rfl ?_
    refine n_get (pc := 25) hS hW 47 dX11_sumBelow_25 fRX11_124 rfl ?_
    refine e_iload (pc := 28) (i := 4) dX11_sumBelow_28 rfl ?_
    have hi2 : vp_in l4 301 := hv.1
    replace hv := hv.2
    refine n_iald (pc := 30) (wa := w) hS hW 47 dX11_sumBelow_30 (by decide) rfl hi2 rfl ?_
    have hi3 : vp_in (rI r 47 l4.toNatClampNeg) 301 := hv.1
    replace hv := hv.2
    refine n_lald (pc := 31) (wa := w) hS hW 8 dX11_sumBelow_31 (by decide) rfl hi3 rfl ?_
    refine e_ladd (pc := 32) dX11_sumBelow_32 ?_
    refine e_lstore_n (pc := 33) (i := 2) (lv' := [(0, vR m), (2, vJ (l2 + (rJ r 8 (rI r 47 l4.toNatClampNeg).toNatClampNeg))), (4, vI l4)]) dX11_sumBelow_33 rfl (by decide) rfl ?_
    refine e_iinc (pc := 34) (v := l4 + 1) (lv' := [(0, vR m), (2, vJ (l2 + (rJ r 8 (rI r 47 l4.toNatClampNeg).toNatClampNeg))), (4, vI (l4 + 1))]) dX11_sumBelow_34 rfl rfl (by decide) rfl ?_
    refine e_goto (pc := 37) (tgt := 10) dX11_sumBelow_37 (by decide) ?_
    exact hv w hW
set_option maxRecDepth 100000 in
set_option maxHeartbeats 4000000 in
theorem pX11_sumBelow (X : Cx) (w0 : Wd) (m : Nat) (hS : Sh w0 m) (A : Int64 → Rs → Prop) (a1 : Int32) (r : Rs)
    (hv : CM X w0 m bX11_leavesOf mX11_leavesOf [vI a1] r (pV fun r3 => iX11_sumBelow_10 X w0 m A 0 0 r3)) :
    CM X w0 m bX11_sumBelow mX11_sumBelow [vI a1] r (pJ A) := by
  intro w hW
  refine Ct.of (Q := qM w0 m (pJ A)) (lv := [(0, vR m), (1, vI a1)]) rfl (Nat.le_of_ble_eq_true rfl) rfl ?_
  refine e_aload_n (pc := 0) (i := 0) dX11_sumBelow_0 rfl rfl ?_
  refine e_iload_n (pc := 1) (i := 1) dX11_sumBelow_1 rfl rfl ?_
  refine e_callV (pc := 2) (ci := 11) (st := []) (rc' := 0) (rs' := 0) (B' := bX11_leavesOf) [vI a1] dX11_sumBelow_2 vRX11_206 kX11_leavesOf (by decide) rfl (hW.K hS) rfl rfl (Nat.le_of_ble_eq_true rfl) ⟨Nat.le_of_ble_eq_true rfl, Nat.le_of_ble_eq_true rfl⟩ rfl rfl (hv w hW) (fun zx1 w2 hq => ?_)
  obtain ⟨r3, hw2, ex1, hv⟩ := hq
  subst ex1
  show EJ X mX11_sumBelow _ 0 0 _ _ [] w2
  refine e_lconst (pc := 5) (v := 0) dX11_sumBelow_5 (by decide) ?_
  refine e_lstore_n (pc := 6) (i := 2) (lv' := [(0, vR m), (1, vI a1), (2, vJ 0)]) dX11_sumBelow_6 rfl (by decide) rfl ?_
  refine e_iconst (pc := 7) (v := 0) dX11_sumBelow_7 (by decide) ?_
  refine e_istore (pc := 8) (i := 4) (lv' := [(0, vR m), (1, vI a1), (2, vJ 0), (4, vI 0)]) dX11_sumBelow_8 (by decide) rfl ?_
  exact EJ.drop [0, 2, 4] rfl (hv w2 hw2)
abbrev iX11_dueOfSum_69 (X : Cx) (w0 : Wd) (m : Nat) (A : Int64 → Rs → Prop) (l1 : Int32) (l2 : Int64) (s0 : Int32) (r : Rs) : Prop := ∀ w, Wm w0 m r w → EJ X mX11_dueOfSum (vw X bX11_dueOfSum (qM w0 m (pJ A))) 0 0 69 [(0, vR m), (1, vI l1), (2, vJ l2)] [vI s0] w
abbrev iX11_dueOfSum_117 (X : Cx) (w0 : Wd) (m : Nat) (A : Int64 → Rs → Prop) (l1 : Int32) (l2 : Int64) (l4 : Int32) (s0 : Int32) (r : Rs) : Prop := ∀ w, Wm w0 m r w → EJ X mX11_dueOfSum (vw X bX11_dueOfSum (qM w0 m (pJ A))) 0 0 117 [(0, vR m), (1, vI l1), (2, vJ l2), (4, vI l4)] [vI s0] w
set_option maxRecDepth 100000 in
set_option maxHeartbeats 4000000 in
theorem rX11_dueOfSum_117 (X : Cx) (w0 : Wd) (m : Nat) (hS : Sh w0 m) (A : Int64 → Rs → Prop) (l1 : Int32) (l2 : Int64) (l4 : Int32) (s0 : Int32) (r : Rs)
    (hv : vp_in l1 301 ∧ vp_in l1 301 ∧ ((¬ l4 = 3) → A (l2 + (((l2 * ((rI r 11 l1.toNatClampNeg).toInt64)) * ((if ((sS r 39) - (rI r 17 l1.toNatClampNeg)) < s0 then ((sS r 39) - (rI r 17 l1.toNatClampNeg)) else s0).toInt64)) / 365000)) r) ∧ ((l4 = 3) → vp_in l1 301 ∧ A (if (l2 + (((l2 * ((rI r 11 l1.toNatClampNeg).toInt64)) * ((if ((sS r 39) - (rI r 17 l1.toNatClampNeg)) < s0 then ((sS r 39) - (rI r 17 l1.toNatClampNeg)) else s0).toInt64)) / 365000)) < (rJ r 12 l1.toNatClampNeg) then (l2 + (((l2 * ((rI r 11 l1.toNatClampNeg).toInt64)) * ((if ((sS r 39) - (rI r 17 l1.toNatClampNeg)) < s0 then ((sS r 39) - (rI r 17 l1.toNatClampNeg)) else s0).toInt64)) / 365000)) else (rJ r 12 l1.toNatClampNeg)) r)) :
    iX11_dueOfSum_117 X w0 m A l1 l2 l4 s0 r := by
  intro w hW
  refine e_istore (pc := 117) (i := 5) (lv' := [(0, vR m), (1, vI l1), (2, vJ l2), (4, vI l4), (5, vI s0)]) dX11_dueOfSum_117 (by decide) rfl ?_
  refine e_iload (pc := 119) (i := 5) dX11_dueOfSum_119 rfl ?_
  refine e_aload_n (pc := 121) (i := 0) dX11_dueOfSum_121 rfl rfl ?_
  refine n_getS (pc := 122) hS hW 39 dX11_dueOfSum_122 fRX11_166 rfl ?_
  refine e_aload_n (pc := 125) (i := 0) dX11_dueOfSum_125 rfl rfl ?_
  refine n_get (pc := 126) hS hW 17 dX11_dueOfSum_126 fRX11_60 rfl ?_
  refine e_iload_n (pc := 129) (i := 1) dX11_dueOfSum_129 rfl rfl ?_
  have hi1 : vp_in l1 301 := hv.1
  replace hv := hv.2
  refine n_iald (pc := 130) (wa := w) hS hW 17 dX11_dueOfSum_130 (by decide) rfl hi1 rfl ?_
  refine e_isub (pc := 131) dX11_dueOfSum_131 ?_
  refine e_mmin (pc := 132) dX11_dueOfSum_132 (tb_a5 136 (by decide +kernel) rfl) (Nat.le_of_ble_eq_true rfl) (Nat.le_of_ble_eq_true rfl) ?_
  refine e_i2l (pc := 135) dX11_dueOfSum_135 ?_
  refine e_lstore (pc := 136) (i := 6) (lv' := [(0, vR m), (1, vI l1), (2, vJ l2), (4, vI l4), (5, vI s0), (6, vJ ((if ((sS r 39) - (rI r 17 l1.toNatClampNeg)) < s0 then ((sS r 39) - (rI r 17 l1.toNatClampNeg)) else s0).toInt64))]) dX11_dueOfSum_136 (by decide) rfl ?_
  refine e_lload_n (pc := 138) (i := 2) dX11_dueOfSum_138 rfl rfl ?_
  refine e_lload_n (pc := 139) (i := 2) dX11_dueOfSum_139 rfl rfl ?_
  refine e_aload_n (pc := 140) (i := 0) dX11_dueOfSum_140 rfl rfl ?_
  refine n_get (pc := 141) hS hW 11 dX11_dueOfSum_141 fRX11_42 rfl ?_
  refine e_iload_n (pc := 144) (i := 1) dX11_dueOfSum_144 rfl rfl ?_
  have hi2 : vp_in l1 301 := hv.1
  replace hv := hv.2
  refine n_iald (pc := 145) (wa := w) hS hW 11 dX11_dueOfSum_145 (by decide) rfl hi2 rfl ?_
  refine e_i2l (pc := 146) dX11_dueOfSum_146 ?_
  refine e_lmul (pc := 147) dX11_dueOfSum_147 ?_
  refine e_lload (pc := 148) (i := 6) dX11_dueOfSum_148 rfl ?_
  refine e_lmul (pc := 150) dX11_dueOfSum_150 ?_
  refine e_ldc2 (pc := 151) (v := 365000) dX11_dueOfSum_151 (tb_a5 137 (by decide +kernel) rfl) ?_
  refine e_ldiv (pc := 154) dX11_dueOfSum_154 (by decide) ?_
  refine e_ladd (pc := 155) dX11_dueOfSum_155 ?_
  refine e_lstore (pc := 156) (i := 8) (lv' := [(0, vR m), (1, vI l1), (2, vJ l2), (4, vI l4), (5, vI s0), (6, vJ ((if ((sS r 39) - (rI r 17 l1.toNatClampNeg)) < s0 then ((sS r 39) - (rI r 17 l1.toNatClampNeg)) else s0).toInt64)), (8, vJ (l2 + (((l2 * ((rI r 11 l1.toNatClampNeg).toInt64)) * ((if ((sS r 39) - (rI r 17 l1.toNatClampNeg)) < s0 then ((sS r 39) - (rI r 17 l1.toNatClampNeg)) else s0).toInt64)) / 365000)))]) dX11_dueOfSum_156 (by decide) rfl ?_
  refine e_iload (pc := 158) (i := 4) dX11_dueOfSum_158 rfl ?_
  refine e_iconst (pc := 160) (v := 3) dX11_dueOfSum_160 (by decide) ?_
  refine e_icmp_ne (pc := 161) (tgt := 178) dX11_dueOfSum_161 (by decide) (fun h3 => ?_) (fun h3 => ?_)
  · replace hv := hv.1 h3
    refine e_lload (pc := 178) (i := 8) dX11_dueOfSum_178 rfl ?_
    exact e_lreturn (pc := 180) dX11_dueOfSum_180 rfl ⟨r, hW, _, rfl, hv⟩
  · replace hv := hv.2 h3
    refine e_aload_n (pc := 164) (i := 0) dX11_dueOfSum_164 rfl rfl ?_
    refine n_get (pc := 165) hS hW 12 dX11_dueOfSum_165 fRX11_45 rfl ?_
    refine e_iload_n (pc := 168) (i := 1) dX11_dueOfSum_168 rfl rfl ?_
    have hi4 : vp_in l1 301 := hv.1
    replace hv := hv.2
    refine n_lald (pc := 169) (wa := w) hS hW 12 dX11_dueOfSum_169 (by decide) rfl hi4 rfl ?_
    refine e_lload (pc := 170) (i := 8) dX11_dueOfSum_170 rfl ?_
    refine e_mminJ (pc := 172) dX11_dueOfSum_172 (tb_a5 138 (by decide +kernel) rfl) (Nat.le_of_ble_eq_true rfl) (Nat.le_of_ble_eq_true rfl) ?_
    refine e_goto (pc := 175) (tgt := 180) dX11_dueOfSum_175 (by decide) ?_
    exact e_lreturn (pc := 180) dX11_dueOfSum_180 rfl ⟨r, hW, _, rfl, hv⟩
set_option maxRecDepth 100000 in
set_option maxHeartbeats 4000000 in
theorem rX11_dueOfSum_69 (X : Cx) (w0 : Wd) (m : Nat) (hS : Sh w0 m) (A : Int64 → Rs → Prop) (l1 : Int32) (l2 : Int64) (s0 : Int32) (r : Rs)
    (hv : vp_in l1 301 ∧ (((rI r 18 l1.toNatClampNeg) = 0) → A (l2 * ((if s0 < (20 : Int32) then s0 else (20 : Int32)).toInt64)) r) ∧ ((¬ (rI r 18 l1.toNatClampNeg) = 0) → A l2 r)) :
    iX11_dueOfSum_69 X w0 m A l1 l2 s0 r := by
  intro w hW
  refine e_istore (pc := 69) (i := 5) (lv' := [(0, vR m), (1, vI l1), (2, vJ l2), (5, vI s0)]) dX11_dueOfSum_69 (by decide) rfl ?_
  refine e_aload_n (pc := 71) (i := 0) dX11_dueOfSum_71 rfl rfl ?_
  refine n_get (pc := 72) hS hW 18 dX11_dueOfSum_72 fRX11_63 rfl ?_
  refine e_iload_n (pc := 75) (i := 1) dX11_dueOfSum_75 rfl rfl ?_
  have hi1 : vp_in l1 301 := hv.1
  replace hv := hv.2
  refine n_zald (pc := 76) (wa := w) hS hW 18 dX11_dueOfSum_76 (by decide) rfl hi1 rfl ?_
  refine e_if_eq (pc := 77) (tgt := 84) dX11_dueOfSum_77 (by decide) (fun h2 => ?_) (fun h2 => ?_)
  · replace hv := hv.1 h2
    refine e_lload_n (pc := 84) (i := 2) dX11_dueOfSum_84 rfl rfl ?_
    refine e_bipush (pc := 85) (v := 20) dX11_dueOfSum_85 (by decide) ?_
    refine e_iload (pc := 87) (i := 5) dX11_dueOfSum_87 rfl ?_
    refine e_mmin (pc := 89) dX11_dueOfSum_89 (tb_a5 136 (by decide +kernel) rfl) (Nat.le_of_ble_eq_true rfl) (Nat.le_of_ble_eq_true rfl) ?_
    refine e_i2l (pc := 92) dX11_dueOfSum_92 ?_
    refine e_lmul (pc := 93) dX11_dueOfSum_93 ?_
    exact e_lreturn (pc := 94) dX11_dueOfSum_94 rfl ⟨r, hW, _, rfl, hv⟩
  · replace hv := hv.2 h2
    refine e_lload_n (pc := 80) (i := 2) dX11_dueOfSum_80 rfl rfl ?_
    refine e_goto (pc := 81) (tgt := 94) dX11_dueOfSum_81 (by decide) ?_
    exact e_lreturn (pc := 94) dX11_dueOfSum_94 rfl ⟨r, hW, _, rfl, hv⟩
set_option maxRecDepth 100000 in
set_option maxHeartbeats 4000000 in
theorem pX11_dueOfSum (X : Cx) (w0 : Wd) (m : Nat) (hS : Sh w0 m) (A : Int64 → Rs → Prop) (a1 : Int32) (a2 : Int64) (r : Rs)
    (hv : vp_in a1 301 ∧ ((¬ (rI r 3 a1.toNatClampNeg) = 6) → ((¬ (rI r 3 a1.toNatClampNeg) = 4) → ((¬ (rI r 3 a1.toNatClampNeg) = 5) → iX11_dueOfSum_117 X w0 m A a1 a2 (rI r 3 a1.toNatClampNeg) 730 r) ∧ (((rI r 3 a1.toNatClampNeg) = 5) → vp_in a1 301 ∧ iX11_dueOfSum_117 X w0 m A a1 a2 (rI r 3 a1.toNatClampNeg) (365 * (rI r 21 a1.toNatClampNeg)) r)) ∧ (((rI r 3 a1.toNatClampNeg) = 4) → vp_in a1 301 ∧ ((¬ (rI r 11 a1.toNatClampNeg) = 0) → vp_in a1 301 ∧ (((sS r 39) < (rI r 11 a1.toNatClampNeg)) → vp_in a1 301 ∧ iX11_dueOfSum_69 X w0 m A a1 a2 (((rI r 11 a1.toNatClampNeg) - (sS r 39)) / 365) r) ∧ ((¬ (sS r 39) < (rI r 11 a1.toNatClampNeg)) → iX11_dueOfSum_69 X w0 m A a1 a2 0 r)) ∧ (((rI r 11 a1.toNatClampNeg) = 0) → iX11_dueOfSum_69 X w0 m A a1 a2 20 r))) ∧ (((rI r 3 a1.toNatClampNeg) = 6) → A 0 r)) :
    CM X w0 m bX11_dueOfSum mX11_dueOfSum [vI a1, vJ a2] r (pJ A) := by
  intro w hW
  refine Ct.of (Q := qM w0 m (pJ A)) (lv := [(0, vR m), (1, vI a1), (2, vJ a2)]) rfl (Nat.le_of_ble_eq_true rfl) rfl ?_
  refine e_aload_n (pc := 0) (i := 0) dX11_dueOfSum_0 rfl rfl ?_
  refine n_get (pc := 1) hS hW 3 dX11_dueOfSum_1 fRX11_17 rfl ?_
  refine e_iload_n (pc := 4) (i := 1) dX11_dueOfSum_4 rfl rfl ?_
  have hi1 : vp_in a1 301 := hv.1
  replace hv := hv.2
  refine n_iald (pc := 5) (wa := w) hS hW 3 dX11_dueOfSum_5 (by decide) rfl hi1 rfl ?_
  refine e_istore (pc := 6) (i := 4) (lv' := [(0, vR m), (1, vI a1), (2, vJ a2), (4, vI (rI r 3 a1.toNatClampNeg))]) dX11_dueOfSum_6 (by decide) rfl ?_
  refine e_iload (pc := 8) (i := 4) dX11_dueOfSum_8 rfl ?_
  refine e_bipush (pc := 10) (v := 6) dX11_dueOfSum_10 (by decide) ?_
  refine e_icmp_ne (pc := 12) (tgt := 17) dX11_dueOfSum_12 (by decide) (fun h2 => ?_) (fun h2 => ?_)
  · replace hv := hv.1 h2
    refine e_iload (pc := 17) (i := 4) dX11_dueOfSum_17 rfl ?_
    refine e_iconst (pc := 19) (v := 4) dX11_dueOfSum_19 (by decide) ?_
    refine e_icmp_ne (pc := 20) (tgt := 95) dX11_dueOfSum_20 (by decide) (fun h3 => ?_) (fun h3 => ?_)
    · replace hv := hv.1 h3
      refine e_iload (pc := 95) (i := 4) dX11_dueOfSum_95 rfl ?_
      refine e_iconst (pc := 97) (v := 5) dX11_dueOfSum_97 (by decide) ?_
      refine e_icmp_ne (pc := 98) (tgt := 114) dX11_dueOfSum_98 (by decide) (fun h4 => ?_) (fun h4 => ?_)
      · replace hv := hv.1 h4
        refine e_sipush (pc := 114) (v := 730) dX11_dueOfSum_114 (by decide) ?_
        exact hv w hW
      · replace hv := hv.2 h4
        refine e_sipush (pc := 101) (v := 365) dX11_dueOfSum_101 (by decide) ?_
        refine e_aload_n (pc := 104) (i := 0) dX11_dueOfSum_104 rfl rfl ?_
        refine n_get (pc := 105) hS hW 21 dX11_dueOfSum_105 fRX11_72 rfl ?_
        refine e_iload_n (pc := 108) (i := 1) dX11_dueOfSum_108 rfl rfl ?_
        have hi5 : vp_in a1 301 := hv.1
        replace hv := hv.2
        refine n_iald (pc := 109) (wa := w) hS hW 21 dX11_dueOfSum_109 (by decide) rfl hi5 rfl ?_
        refine e_imul (pc := 110) dX11_dueOfSum_110 ?_
        refine e_goto (pc := 111) (tgt := 117) dX11_dueOfSum_111 (by decide) ?_
        exact hv w hW
    · replace hv := hv.2 h3
      refine e_aload_n (pc := 23) (i := 0) dX11_dueOfSum_23 rfl rfl ?_
      refine n_get (pc := 24) hS hW 11 dX11_dueOfSum_24 fRX11_42 rfl ?_
      refine e_iload_n (pc := 27) (i := 1) dX11_dueOfSum_27 rfl rfl ?_
      have hi6 : vp_in a1 301 := hv.1
      replace hv := hv.2
      refine n_iald (pc := 28) (wa := w) hS hW 11 dX11_dueOfSum_28 (by decide) rfl hi6 rfl ?_
      refine e_if_ne (pc := 29) (tgt := 37) dX11_dueOfSum_29 (by decide) (fun h7 => ?_) (fun h7 => ?_)
      · replace hv := hv.1 h7
        refine e_aload_n (pc := 37) (i := 0) dX11_dueOfSum_37 rfl rfl ?_
        refine n_get (pc := 38) hS hW 11 dX11_dueOfSum_38 fRX11_42 rfl ?_
        refine e_iload_n (pc := 41) (i := 1) dX11_dueOfSum_41 rfl rfl ?_
        have hi8 : vp_in a1 301 := hv.1
        replace hv := hv.2
        refine n_iald (pc := 42) (wa := w) hS hW 11 dX11_dueOfSum_42 (by decide) rfl hi8 rfl ?_
        refine e_aload_n (pc := 43) (i := 0) dX11_dueOfSum_43 rfl rfl ?_
        refine n_getS (pc := 44) hS hW 39 dX11_dueOfSum_44 fRX11_166 rfl ?_
        refine e_icmp_gt (pc := 47) (tgt := 54) dX11_dueOfSum_47 (by decide) (fun h9 => ?_) (fun h9 => ?_)
        · replace hv := hv.1 h9
          refine e_aload_n (pc := 54) (i := 0) dX11_dueOfSum_54 rfl rfl ?_
          refine n_get (pc := 55) hS hW 11 dX11_dueOfSum_55 fRX11_42 rfl ?_
          refine e_iload_n (pc := 58) (i := 1) dX11_dueOfSum_58 rfl rfl ?_
          have hi10 : vp_in a1 301 := hv.1
          replace hv := hv.2
          refine n_iald (pc := 59) (wa := w) hS hW 11 dX11_dueOfSum_59 (by decide) rfl hi10 rfl ?_
          refine e_aload_n (pc := 60) (i := 0) dX11_dueOfSum_60 rfl rfl ?_
          refine n_getS (pc := 61) hS hW 39 dX11_dueOfSum_61 fRX11_166 rfl ?_
          refine e_isub (pc := 64) dX11_dueOfSum_64 ?_
          refine e_sipush (pc := 65) (v := 365) dX11_dueOfSum_65 (by decide) ?_
          refine e_idiv (pc := 68) dX11_dueOfSum_68 (by decide) ?_
          exact EJ.drop [0, 1, 2] rfl (hv w hW)
        · replace hv := hv.2 h9
          refine e_iconst (pc := 50) (v := 0) dX11_dueOfSum_50 (by decide) ?_
          refine e_goto (pc := 51) (tgt := 69) dX11_dueOfSum_51 (by decide) ?_
          exact EJ.drop [0, 1, 2] rfl (hv w hW)
      · replace hv := hv.2 h7
        refine e_bipush (pc := 32) (v := 20) dX11_dueOfSum_32 (by decide) ?_
        refine e_goto (pc := 34) (tgt := 69) dX11_dueOfSum_34 (by decide) ?_
        exact EJ.drop [0, 1, 2] rfl (hv w hW)
  · replace hv := hv.2 h2
    refine e_lconst (pc := 15) (v := 0) dX11_dueOfSum_15 (by decide) ?_
    exact e_lreturn (pc := 16) dX11_dueOfSum_16 rfl ⟨r, hW, _, rfl, hv⟩
abbrev iX11_dues_13 (X : Cx) (w0 : Wd) (m : Nat) (A : Rs → Prop) (l1 : Int32) (l2 : Int64) (l4 : Int64) (l6 : Int32) (r : Rs) : Prop := ∀ w, Wm w0 m r w → EJ X mX11_dues (vw X bX11_dues (qM w0 m (pV A))) 0 0 13 [(0, vR m), (1, vI l1), (2, vJ l2), (4, vJ l4), (6, vI l6)] [] w
set_option maxRecDepth 100000 in
set_option maxHeartbeats 4000000 in
theorem rX11_dues_13 (X : Cx) (w0 : Wd) (m : Nat) (hS : Sh w0 m) (A : Rs → Prop) (l1 : Int32) (l2 : Int64) (l4 : Int64) (l6 : Int32) (r : Rs)
    (hv : (((sS r 48) ≤ l6) → A r) ∧ ((¬ (sS r 48) ≤ l6) → vp_in l6 301 ∧ vp_in (rI r 47 l6.toNatClampNeg) 301 ∧ CM X w0 m bX11_dueOfSum mX11_dueOfSum [vI l1, vJ (l2 + (rJ r 8 (rI r 47 l6.toNatClampNeg).toNatClampNeg))] r (pJ fun x4 r6 => vp_in l6 301 ∧ vp_in (rI r6 47 l6.toNatClampNeg) 301 ∧ ∀ r9 : Rs, r9 = uJ r6 49 (rI r6 47 l6.toNatClampNeg).toNatClampNeg (x4 - l4) → iX11_dues_13 X w0 m A l1 (l2 + (rJ r 8 (rI r 47 l6.toNatClampNeg).toNatClampNeg)) x4 (l6 + 1) r9))) :
    iX11_dues_13 X w0 m A l1 l2 l4 l6 r := by
  intro w hW
  refine e_iload (pc := 13) (i := 6) dX11_dues_13 rfl ?_
  refine e_aload_n (pc := 15) (i := 0) dX11_dues_15 rfl rfl ?_
  refine n_getS (pc := 16) hS hW 48 dX11_dues_16 fRX11_199 rfl ?_
  refine e_icmp_ge (pc := 19) (tgt := 72) dX11_dues_19 (by decide) (fun h1 => ?_) (fun h1 => ?_)
  · replace hv := hv.1 h1
    exact e_vreturn (pc := 72) dX11_dues_72 rfl ⟨r, hW, rfl, hv⟩
  · replace hv := hv.2 h1
    refine e_lload_n (pc := 22) (i := 2) dX11_dues_22 rfl rfl ?_
    refine e_aload_n (pc := 23) (i := 0) dX11_dues_23 rfl rfl ?_
    refine n_get (pc := 24) hS hW 8 dX11_dues_24 fRX11_32 rfl ?_
    refine e_aload_n (pc := 27) (i := 0) dX11_dues_27 rfl rfl ?_
    refine n_get (pc := 28) hS hW 47 dX11_dues_28 fRX11_124 rfl ?_
    refine e_iload (pc := 31) (i := 6) dX11_dues_31 rfl ?_
    have hi2 : vp_in l6 301 := hv.1
    replace hv := hv.2
    refine n_iald (pc := 33) (wa := w) hS hW 47 dX11_dues_33 (by decide) rfl hi2 rfl ?_
    have hi3 : vp_in (rI r 47 l6.toNatClampNeg) 301 := hv.1
    replace hv := hv.2
    refine n_lald (pc := 34) (wa := w) hS hW 8 dX11_dues_34 (by decide) rfl hi3 rfl ?_
    refine e_ladd (pc := 35) dX11_dues_35 ?_
    refine e_lstore_n (pc := 36) (i := 2) (lv' := [(0, vR m), (1, vI l1), (2, vJ (l2 + (rJ r 8 (rI r 47 l6.toNatClampNeg).toNatClampNeg))), (4, vJ l4), (6, vI l6)]) dX11_dues_36 rfl (by decide) rfl ?_
    refine e_aload_n (pc := 37) (i := 0) dX11_dues_37 rfl rfl ?_
    refine e_iload_n (pc := 38) (i := 1) dX11_dues_38 rfl rfl ?_
    refine e_lload_n (pc := 39) (i := 2) dX11_dues_39 rfl rfl ?_
    refine e_callV (pc := 40) (ci := 11) (st := []) (rc' := 0) (rs' := 0) (B' := bX11_dueOfSum) [vI l1, vJ (l2 + (rJ r 8 (rI r 47 l6.toNatClampNeg).toNatClampNeg))] dX11_dues_40 vRX11_220 kX11_dueOfSum (by decide) rfl (hW.K hS) rfl rfl (Nat.le_of_ble_eq_true rfl) ⟨Nat.le_of_ble_eq_true rfl, Nat.le_of_ble_eq_true rfl⟩ rfl rfl (hv w hW) (fun zx4 w5 hq => ?_)
    obtain ⟨r6, hw5, x4, ex4, hv⟩ := hq
    subst ex4
    show EJ X mX11_dues _ 0 0 _ _ (vJ x4 :: []) w5
    refine e_lstore (pc := 43) (i := 7) (lv' := [(0, vR m), (1, vI l1), (2, vJ (l2 + (rJ r 8 (rI r 47 l6.toNatClampNeg).toNatClampNeg))), (4, vJ l4), (6, vI l6), (7, vJ x4)]) dX11_dues_43 (by decide) rfl ?_
    refine e_aload_n (pc := 45) (i := 0) dX11_dues_45 rfl rfl ?_
    refine n_get (pc := 46) hS hw5 49 dX11_dues_46 fRX11_127 rfl ?_
    refine e_aload_n (pc := 49) (i := 0) dX11_dues_49 rfl rfl ?_
    refine n_get (pc := 50) hS hw5 47 dX11_dues_50 fRX11_124 rfl ?_
    refine e_iload (pc := 53) (i := 6) dX11_dues_53 rfl ?_
    have hi7 : vp_in l6 301 := hv.1
    replace hv := hv.2
    refine n_iald (pc := 55) (wa := w5) hS hw5 47 dX11_dues_55 (by decide) rfl hi7 rfl ?_
    refine e_lload (pc := 56) (i := 7) dX11_dues_56 rfl ?_
    refine e_lload (pc := 58) (i := 4) dX11_dues_58 rfl ?_
    refine e_lsub (pc := 60) dX11_dues_60 ?_
    have hi8 : vp_in (rI r6 47 l6.toNatClampNeg) 301 := hv.1
    replace hv := hv.2
    refine n_last (pc := 61) (wa := w5) hS hw5 49 dX11_dues_61 (by decide) rfl hi8 rfl (fun w10 hw10 => ?_)
    obtain ⟨r9, er9⟩ : ∃ r9 : Rs, r9 = uJ r6 49 (rI r6 47 l6.toNatClampNeg).toNatClampNeg (x4 - l4) := ⟨_, rfl⟩
    replace hv := hv r9 er9
    rw [← er9] at hw10
    refine e_lload (pc := 62) (i := 7) dX11_dues_62 rfl ?_
    refine e_lstore (pc := 64) (i := 4) (lv' := [(0, vR m), (1, vI l1), (2, vJ (l2 + (rJ r 8 (rI r 47 l6.toNatClampNeg).toNatClampNeg))), (4, vJ x4), (6, vI l6), (7, vJ x4)]) dX11_dues_64 (by decide) rfl ?_
    refine e_iinc (pc := 66) (v := l6 + 1) (lv' := [(0, vR m), (1, vI l1), (2, vJ (l2 + (rJ r 8 (rI r 47 l6.toNatClampNeg).toNatClampNeg))), (4, vJ x4), (6, vI (l6 + 1)), (7, vJ x4)]) dX11_dues_66 rfl rfl (by decide) rfl ?_
    refine e_goto (pc := 69) (tgt := 13) dX11_dues_69 (by decide) ?_
    exact EJ.drop [0, 1, 2, 4, 6] rfl (hv w10 hw10)
set_option maxRecDepth 100000 in
set_option maxHeartbeats 4000000 in
theorem pX11_dues (X : Cx) (w0 : Wd) (m : Nat) (hS : Sh w0 m) (A : Rs → Prop) (a1 : Int32) (r : Rs)
    (hv : CM X w0 m bX11_leavesOf mX11_leavesOf [vI a1] r (pV fun r3 => iX11_dues_13 X w0 m A a1 0 0 0 r3)) :
    CM X w0 m bX11_dues mX11_dues [vI a1] r (pV A) := by
  intro w hW
  refine Ct.of (Q := qM w0 m (pV A)) (lv := [(0, vR m), (1, vI a1)]) rfl (Nat.le_of_ble_eq_true rfl) rfl ?_
  refine e_aload_n (pc := 0) (i := 0) dX11_dues_0 rfl rfl ?_
  refine e_iload_n (pc := 1) (i := 1) dX11_dues_1 rfl rfl ?_
  refine e_callV (pc := 2) (ci := 11) (st := []) (rc' := 0) (rs' := 0) (B' := bX11_leavesOf) [vI a1] dX11_dues_2 vRX11_206 kX11_leavesOf (by decide) rfl (hW.K hS) rfl rfl (Nat.le_of_ble_eq_true rfl) ⟨Nat.le_of_ble_eq_true rfl, Nat.le_of_ble_eq_true rfl⟩ rfl rfl (hv w hW) (fun zx1 w2 hq => ?_)
  obtain ⟨r3, hw2, ex1, hv⟩ := hq
  subst ex1
  show EJ X mX11_dues _ 0 0 _ _ [] w2
  refine e_lconst (pc := 5) (v := 0) dX11_dues_5 (by decide) ?_
  refine e_lstore_n (pc := 6) (i := 2) (lv' := [(0, vR m), (1, vI a1), (2, vJ 0)]) dX11_dues_6 rfl (by decide) rfl ?_
  refine e_lconst (pc := 7) (v := 0) dX11_dues_7 (by decide) ?_
  refine e_lstore (pc := 8) (i := 4) (lv' := [(0, vR m), (1, vI a1), (2, vJ 0), (4, vJ 0)]) dX11_dues_8 (by decide) rfl ?_
  refine e_iconst (pc := 10) (v := 0) dX11_dues_10 (by decide) ?_
  refine e_istore (pc := 11) (i := 6) (lv' := [(0, vR m), (1, vI a1), (2, vJ 0), (4, vJ 0), (6, vI 0)]) dX11_dues_11 (by decide) rfl ?_
  exact hv w2 hw2
abbrev iX11_due_32 (X : Cx) (w0 : Wd) (m : Nat) (A : Int64 → Rs → Prop) (l2 : Int64) (l4 : Int32) (r : Rs) : Prop := ∀ w, Wm w0 m r w → EJ X mX11_due (vw X bX11_due (qM w0 m (pJ A))) 0 0 32 [(0, vR m), (2, vJ l2), (4, vI l4)] [] w
set_option maxRecDepth 100000 in
set_option maxHeartbeats 4000000 in
theorem rX11_due_32 (X : Cx) (w0 : Wd) (m : Nat) (hS : Sh w0 m) (A : Int64 → Rs → Prop) (l2 : Int64) (l4 : Int32) (r : Rs)
    (hv : (((sS r 48) ≤ l4) → A l2 r) ∧ ((¬ (sS r 48) ≤ l4) → vp_in l4 301 ∧ vp_in (rI r 47 l4.toNatClampNeg) 301 ∧ iX11_due_32 X w0 m A (l2 + (rJ r 49 (rI r 47 l4.toNatClampNeg).toNatClampNeg)) (l4 + 1) r)) :
    iX11_due_32 X w0 m A l2 l4 r := by
  intro w hW
  refine e_iload (pc := 32) (i := 4) dX11_due_32 rfl ?_
  refine e_aload_n (pc := 34) (i := 0) dX11_due_34 rfl rfl ?_
  refine n_getS (pc := 35) hS hW 48 dX11_due_35 fRX11_199 rfl ?_
  refine e_icmp_ge (pc := 38) (tgt := 62) dX11_due_38 (by decide) (fun h1 => ?_) (fun h1 => ?_)
  · replace hv := hv.1 h1
    refine e_lload_n (pc := 62) (i := 2) dX11_due_62 rfl rfl ?_
    exact e_lreturn (pc := 63) dX11_due_63 rfl ⟨r, hW, _, rfl, hv⟩
  · replace hv := hv.2 h1
    refine e_lload_n (pc := 41) (i := 2) dX11_due_41 rfl rfl ?_
    refine e_aload_n (pc := 42) (i := 0) dX11_due_42 rfl rfl ?_
    refine n_get (pc := 43) hS hW 49 dX11_due_43 fRX11_127 rfl ?_
    refine e_aload_n (pc := 46) (i := 0) dX11_due_46 rfl rfl ?_
    refine n_get (pc := 47) hS hW 47 dX11_due_47 fRX11_124 rfl ?_
    refine e_iload (pc := 50) (i := 4) dX11_due_50 rfl ?_
    have hi2 : vp_in l4 301 := hv.1
    replace hv := hv.2
    refine n_iald (pc := 52) (wa := w) hS hW 47 dX11_due_52 (by decide) rfl hi2 rfl ?_
    have hi3 : vp_in (rI r 47 l4.toNatClampNeg) 301 := hv.1
    replace hv := hv.2
    refine n_lald (pc := 53) (wa := w) hS hW 49 dX11_due_53 (by decide) rfl hi3 rfl ?_
    refine e_ladd (pc := 54) dX11_due_54 ?_
    refine e_lstore_n (pc := 55) (i := 2) (lv' := [(0, vR m), (2, vJ (l2 + (rJ r 49 (rI r 47 l4.toNatClampNeg).toNatClampNeg))), (4, vI l4)]) dX11_due_55 rfl (by decide) rfl ?_
    refine e_iinc (pc := 56) (v := l4 + 1) (lv' := [(0, vR m), (2, vJ (l2 + (rJ r 49 (rI r 47 l4.toNatClampNeg).toNatClampNeg))), (4, vI (l4 + 1))]) dX11_due_56 rfl rfl (by decide) rfl ?_
    refine e_goto (pc := 59) (tgt := 32) dX11_due_59 (by decide) ?_
    exact hv w hW
set_option maxRecDepth 100000 in
set_option maxHeartbeats 4000000 in
theorem pX11_due (X : Cx) (w0 : Wd) (m : Nat) (hS : Sh w0 m) (A : Int64 → Rs → Prop) (a1 : Int32) (r : Rs)
    (hv : CM X w0 m bX11_isEntry mX11_isEntry [vI a1] r (pI fun x1 r3 => ((¬ x1 = 0) → vp_in a1 301 ∧ CM X w0 m bX11_dues mX11_dues [vI (rI r3 5 a1.toNatClampNeg)] r3 (pV fun r8 => CM X w0 m bX11_leavesOf mX11_leavesOf [vI a1] r8 (pV fun r11 => iX11_due_32 X w0 m A 0 0 r11))) ∧ ((x1 = 0) → A (-1) r3))) :
    CM X w0 m bX11_due mX11_due [vI a1] r (pJ A) := by
  intro w hW
  refine Ct.of (Q := qM w0 m (pJ A)) (lv := [(0, vR m), (1, vI a1)]) rfl (Nat.le_of_ble_eq_true rfl) rfl ?_
  refine e_aload_n (pc := 0) (i := 0) dX11_due_0 rfl rfl ?_
  refine e_iload_n (pc := 1) (i := 1) dX11_due_1 rfl rfl ?_
  refine e_callV (pc := 2) (ci := 11) (st := []) (rc' := 0) (rs' := 0) (B' := bX11_isEntry) [vI a1] dX11_due_2 vRX11_224 kX11_isEntry (by decide) rfl (hW.K hS) rfl rfl (Nat.le_of_ble_eq_true rfl) ⟨Nat.le_of_ble_eq_true rfl, Nat.le_of_ble_eq_true rfl⟩ rfl rfl (hv w hW) (fun zx1 w2 hq => ?_)
  obtain ⟨r3, hw2, x1, ex1, hv⟩ := hq
  subst ex1
  show EJ X mX11_due _ 0 0 _ _ (vI x1 :: []) w2
  refine e_if_ne (pc := 5) (tgt := 12) dX11_due_5 (by decide) (fun h4 => ?_) (fun h4 => ?_)
  · replace hv := hv.1 h4
    refine e_aload_n (pc := 12) (i := 0) dX11_due_12 rfl rfl ?_
    refine e_aload_n (pc := 13) (i := 0) dX11_due_13 rfl rfl ?_
    refine n_get (pc := 14) hS hw2 5 dX11_due_14 fRX11_23 rfl ?_
    refine e_iload_n (pc := 17) (i := 1) dX11_due_17 rfl rfl ?_
    have hi5 : vp_in a1 301 := hv.1
    replace hv := hv.2
    refine n_iald (pc := 18) (wa := w2) hS hw2 5 dX11_due_18 (by decide) rfl hi5 rfl ?_
    refine e_callV (pc := 19) (ci := 11) (st := []) (rc' := 0) (rs' := 0) (B' := bX11_dues) [vI (rI r3 5 a1.toNatClampNeg)] dX11_due_19 vRX11_229 kX11_dues (by decide) rfl (hw2.K hS) rfl rfl (Nat.le_of_ble_eq_true rfl) ⟨Nat.le_of_ble_eq_true rfl, Nat.le_of_ble_eq_true rfl⟩ rfl rfl (hv w2 hw2) (fun zx6 w7 hq => ?_)
    obtain ⟨r8, hw7, ex6, hv⟩ := hq
    subst ex6
    show EJ X mX11_due _ 0 0 _ _ [] w7
    refine e_aload_n (pc := 22) (i := 0) dX11_due_22 rfl rfl ?_
    refine e_iload_n (pc := 23) (i := 1) dX11_due_23 rfl rfl ?_
    refine e_callV (pc := 24) (ci := 11) (st := []) (rc' := 0) (rs' := 0) (B' := bX11_leavesOf) [vI a1] dX11_due_24 vRX11_206 kX11_leavesOf (by decide) rfl (hw7.K hS) rfl rfl (Nat.le_of_ble_eq_true rfl) ⟨Nat.le_of_ble_eq_true rfl, Nat.le_of_ble_eq_true rfl⟩ rfl rfl (hv w7 hw7) (fun zx9 w10 hq => ?_)
    obtain ⟨r11, hw10, ex9, hv⟩ := hq
    subst ex9
    show EJ X mX11_due _ 0 0 _ _ [] w10
    refine e_lconst (pc := 27) (v := 0) dX11_due_27 (by decide) ?_
    refine e_lstore_n (pc := 28) (i := 2) (lv' := [(0, vR m), (1, vI a1), (2, vJ 0)]) dX11_due_28 rfl (by decide) rfl ?_
    refine e_iconst (pc := 29) (v := 0) dX11_due_29 (by decide) ?_
    refine e_istore (pc := 30) (i := 4) (lv' := [(0, vR m), (1, vI a1), (2, vJ 0), (4, vI 0)]) dX11_due_30 (by decide) rfl ?_
    exact EJ.drop [0, 2, 4] rfl (hv w10 hw10)
  · replace hv := hv.2 h4
    refine e_ldc2 (pc := 8) (v := -1) dX11_due_8 (tb_a5 119 (by decide +kernel) rfl) ?_
    exact e_lreturn (pc := 11) dX11_due_11 rfl ⟨r3, hw2, _, rfl, hv⟩
set_option maxRecDepth 100000 in
set_option maxHeartbeats 4000000 in
theorem pX11_folio (X : Cx) (w0 : Wd) (m : Nat) (hS : Sh w0 m) (A : Int32 → Rs → Prop) (a1 : Int32) (r : Rs)
    (hv : ((a1 < 1) → CM X w0 m bX11_refuse mX11_refuse [vI 5] r (pI fun x2 r4 => A x2 r4)) ∧ ((¬ a1 < 1) → ((a1 ≤ 60) → ((¬ (sS r 2) = 40) → vp_in (sS r 2) 40 ∧ ∀ r8 : Rs, r8 = uI r 0 (sS r 2).toNatClampNeg a1 → ∀ r10 : Rs, r10 = uS r8 2 ((sS r8 2) + 1) → ∀ r12 : Rs, r12 = uS r10 41 0 → A ((sS r12 2) - 1) r12) ∧ (((sS r 2) = 40) → CM X w0 m bX11_refuse mX11_refuse [vI 10] r (pI fun x14 r16 => A x14 r16))) ∧ ((¬ a1 ≤ 60) → CM X w0 m bX11_refuse mX11_refuse [vI 5] r (pI fun x17 r19 => A x17 r19)))) :
    CM X w0 m bX11_folio mX11_folio [vI a1] r (pI A) := by
  intro w hW
  refine Ct.of (Q := qM w0 m (pI A)) (lv := [(0, vR m), (1, vI a1)]) rfl (Nat.le_of_ble_eq_true rfl) rfl ?_
  refine e_iload_n (pc := 0) (i := 1) dX11_folio_0 rfl rfl ?_
  refine e_iconst (pc := 1) (v := 1) dX11_folio_1 (by decide) ?_
  refine e_icmp_lt (pc := 2) (tgt := 11) dX11_folio_2 (by decide) (fun h1 => ?_) (fun h1 => ?_)
  · replace hv := hv.1 h1
    refine e_aload_n (pc := 11) (i := 0) dX11_folio_11 rfl rfl ?_
    refine e_iconst (pc := 12) (v := 5) dX11_folio_12 (by decide) ?_
    refine e_callV (pc := 13) (ci := 11) (st := []) (rc' := 0) (rs' := 0) (B' := bX11_refuse) [vI 5] dX11_folio_13 vRX11_231 kX11_refuse (by decide) rfl (hW.K hS) rfl rfl (Nat.le_of_ble_eq_true rfl) ⟨Nat.le_of_ble_eq_true rfl, Nat.le_of_ble_eq_true rfl⟩ rfl rfl (hv w hW) (fun zx2 w3 hq => ?_)
    obtain ⟨r4, hw3, x2, ex2, hv⟩ := hq
    subst ex2
    show EJ X mX11_folio _ 0 0 _ _ (vI x2 :: []) w3
    exact e_ireturn (pc := 16) dX11_folio_16 rfl ⟨r4, hw3, _, rfl, hv⟩
  · replace hv := hv.2 h1
    refine e_iload_n (pc := 5) (i := 1) dX11_folio_5 rfl rfl ?_
    refine e_bipush (pc := 6) (v := 60) dX11_folio_6 (by decide) ?_
    refine e_icmp_le (pc := 8) (tgt := 17) dX11_folio_8 (by decide) (fun h5 => ?_) (fun h5 => ?_)
    · replace hv := hv.1 h5
      refine e_aload_n (pc := 17) (i := 0) dX11_folio_17 rfl rfl ?_
      refine n_getS (pc := 18) hS hW 2 dX11_folio_18 fRX11_172 rfl ?_
      refine e_bipush (pc := 21) (v := 40) dX11_folio_21 (by decide) ?_
      refine e_icmp_ne (pc := 23) (tgt := 33) dX11_folio_23 (by decide) (fun h6 => ?_) (fun h6 => ?_)
      · replace hv := hv.1 h6
        refine e_aload_n (pc := 33) (i := 0) dX11_folio_33 rfl rfl ?_
        refine n_get (pc := 34) hS hW 0 dX11_folio_34 fRX11_7 rfl ?_
        refine e_aload_n (pc := 37) (i := 0) dX11_folio_37 rfl rfl ?_
        refine n_getS (pc := 38) hS hW 2 dX11_folio_38 fRX11_172 rfl ?_
        refine e_iload_n (pc := 41) (i := 1) dX11_folio_41 rfl rfl ?_
        have hi7 : vp_in (sS r 2) 40 := hv.1
        replace hv := hv.2
        refine n_iast (pc := 42) (wa := w) hS hW 0 dX11_folio_42 (by decide) rfl hi7 rfl (fun w9 hw9 => ?_)
        obtain ⟨r8, er8⟩ : ∃ r8 : Rs, r8 = uI r 0 (sS r 2).toNatClampNeg a1 := ⟨_, rfl⟩
        replace hv := hv r8 er8
        rw [← er8] at hw9
        refine e_aload_n (pc := 43) (i := 0) dX11_folio_43 rfl rfl ?_
        refine e_dup (pc := 44) dX11_folio_44 rfl ?_
        refine n_getS (pc := 45) hS hw9 2 dX11_folio_45 fRX11_172 rfl ?_
        refine e_iconst (pc := 48) (v := 1) dX11_folio_48 (by decide) ?_
        refine e_iadd (pc := 49) dX11_folio_49 ?_
        refine n_putS (pc := 50) hS hw9 2 dX11_folio_50 fRX11_172 rfl rfl (fun w11 hw11 => ?_)
        obtain ⟨r10, er10⟩ : ∃ r10 : Rs, r10 = uS r8 2 ((sS r8 2) + 1) := ⟨_, rfl⟩
        replace hv := hv r10 er10
        rw [← er10] at hw11
        refine e_aload_n (pc := 53) (i := 0) dX11_folio_53 rfl rfl ?_
        refine e_iconst (pc := 54) (v := 0) dX11_folio_54 (by decide) ?_
        refine n_putS (pc := 55) hS hw11 41 dX11_folio_55 fRX11_163 rfl rfl (fun w13 hw13 => ?_)
        obtain ⟨r12, er12⟩ : ∃ r12 : Rs, r12 = uS r10 41 0 := ⟨_, rfl⟩
        replace hv := hv r12 er12
        rw [← er12] at hw13
        refine e_aload_n (pc := 58) (i := 0) dX11_folio_58 rfl rfl ?_
        refine n_getS (pc := 59) hS hw13 2 dX11_folio_59 fRX11_172 rfl ?_
        refine e_iconst (pc := 62) (v := 1) dX11_folio_62 (by decide) ?_
        refine e_isub (pc := 63) dX11_folio_63 ?_
        exact e_ireturn (pc := 64) dX11_folio_64 rfl ⟨r12, hw13, _, rfl, hv⟩
      · replace hv := hv.2 h6
        refine e_aload_n (pc := 26) (i := 0) dX11_folio_26 rfl rfl ?_
        refine e_bipush (pc := 27) (v := 10) dX11_folio_27 (by decide) ?_
        refine e_callV (pc := 29) (ci := 11) (st := []) (rc' := 0) (rs' := 0) (B' := bX11_refuse) [vI 10] dX11_folio_29 vRX11_231 kX11_refuse (by decide) rfl (hW.K hS) rfl rfl (Nat.le_of_ble_eq_true rfl) ⟨Nat.le_of_ble_eq_true rfl, Nat.le_of_ble_eq_true rfl⟩ rfl rfl (hv w hW) (fun zx14 w15 hq => ?_)
        obtain ⟨r16, hw15, x14, ex14, hv⟩ := hq
        subst ex14
        show EJ X mX11_folio _ 0 0 _ _ (vI x14 :: []) w15
        exact e_ireturn (pc := 32) dX11_folio_32 rfl ⟨r16, hw15, _, rfl, hv⟩
    · replace hv := hv.2 h5
      refine e_aload_n (pc := 11) (i := 0) dX11_folio_11 rfl rfl ?_
      refine e_iconst (pc := 12) (v := 5) dX11_folio_12 (by decide) ?_
      refine e_callV (pc := 13) (ci := 11) (st := []) (rc' := 0) (rs' := 0) (B' := bX11_refuse) [vI 5] dX11_folio_13 vRX11_231 kX11_refuse (by decide) rfl (hW.K hS) rfl rfl (Nat.le_of_ble_eq_true rfl) ⟨Nat.le_of_ble_eq_true rfl, Nat.le_of_ble_eq_true rfl⟩ rfl rfl (hv w hW) (fun zx17 w18 hq => ?_)
      obtain ⟨r19, hw18, x17, ex17, hv⟩ := hq
      subst ex17
      show EJ X mX11_folio _ 0 0 _ _ (vI x17 :: []) w18
      exact e_ireturn (pc := 16) dX11_folio_16 rfl ⟨r19, hw18, _, rfl, hv⟩
set_option maxRecDepth 100000 in
set_option maxHeartbeats 4000000 in
theorem pX11_tear (X : Cx) (w0 : Wd) (m : Nat) (hS : Sh w0 m) (A : Int32 → Rs → Prop) (a1 : Int32) (a2 : Int32) (r : Rs)
    (hv : CM X w0 m bX11_wrong mX11_wrong [vI a1, vI a2] r (pI fun x1 r3 => ((x1 ≤ 0) → vp_in ((60 * a1) + a2) 2400 ∧ ∀ r6 : Rs, r6 = uI r3 1 ((60 * a1) + a2).toNatClampNeg 1 → ∀ r8 : Rs, r8 = uS r6 41 0 → A 1 r8) ∧ ((¬ x1 ≤ 0) → CM X w0 m bX11_no mX11_no [vI x1] r3 (pI fun x10 r12 => (x10 = 0 ∨ x10 = 1) ∧ A x10 r12)))) :
    CM X w0 m bX11_tear mX11_tear [vI a1, vI a2] r (pI A) := by
  intro w hW
  refine Ct.of (Q := qM w0 m (pI A)) (lv := [(0, vR m), (1, vI a1), (2, vI a2)]) rfl (Nat.le_of_ble_eq_true rfl) rfl ?_
  refine e_aload_n (pc := 0) (i := 0) dX11_tear_0 rfl rfl ?_
  refine e_iload_n (pc := 1) (i := 1) dX11_tear_1 rfl rfl ?_
  refine e_iload_n (pc := 2) (i := 2) dX11_tear_2 rfl rfl ?_
  refine e_callV (pc := 3) (ci := 11) (st := []) (rc' := 0) (rs' := 0) (B' := bX11_wrong) [vI a1, vI a2] dX11_tear_3 vRX11_235 kX11_wrong (by decide) rfl (hW.K hS) rfl rfl (Nat.le_of_ble_eq_true rfl) ⟨Nat.le_of_ble_eq_true rfl, Nat.le_of_ble_eq_true rfl⟩ rfl rfl (hv w hW) (fun zx1 w2 hq => ?_)
  obtain ⟨r3, hw2, x1, ex1, hv⟩ := hq
  subst ex1
  show EJ X mX11_tear _ 0 0 _ _ (vI x1 :: []) w2
  refine e_istore_n (pc := 6) (i := 3) (lv' := [(0, vR m), (1, vI a1), (2, vI a2), (3, vI x1)]) dX11_tear_6 rfl (by decide) rfl ?_
  refine e_iload_n (pc := 7) (i := 3) dX11_tear_7 rfl rfl ?_
  refine e_if_le (pc := 8) (tgt := 17) dX11_tear_8 (by decide) (fun h4 => ?_) (fun h4 => ?_)
  · replace hv := hv.1 h4
    refine e_aload_n (pc := 17) (i := 0) dX11_tear_17 rfl rfl ?_
    refine n_get (pc := 18) hS hw2 1 dX11_tear_18 fRX11_13 rfl ?_
    refine e_bipush (pc := 21) (v := 60) dX11_tear_21 (by decide) ?_
    refine e_iload_n (pc := 23) (i := 1) dX11_tear_23 rfl rfl ?_
    refine e_imul (pc := 24) dX11_tear_24 ?_
    refine e_iload_n (pc := 25) (i := 2) dX11_tear_25 rfl rfl ?_
    refine e_iadd (pc := 26) dX11_tear_26 ?_
    refine e_iconst (pc := 27) (v := 1) dX11_tear_27 (by decide) ?_
    have hi5 : vp_in ((60 * a1) + a2) 2400 := hv.1
    replace hv := hv.2
    refine n_zast (pc := 28) (wa := w2) hS hw2 1 dX11_tear_28 (by decide) rfl hi5 rfl (Or.inr rfl) (fun w7 hw7 => ?_)
    obtain ⟨r6, er6⟩ : ∃ r6 : Rs, r6 = uI r3 1 ((60 * a1) + a2).toNatClampNeg 1 := ⟨_, rfl⟩
    replace hv := hv r6 er6
    rw [← er6] at hw7
    refine e_aload_n (pc := 29) (i := 0) dX11_tear_29 rfl rfl ?_
    refine e_iconst (pc := 30) (v := 0) dX11_tear_30 (by decide) ?_
    refine n_putS (pc := 31) hS hw7 41 dX11_tear_31 fRX11_163 rfl rfl (fun w9 hw9 => ?_)
    obtain ⟨r8, er8⟩ : ∃ r8 : Rs, r8 = uS r6 41 0 := ⟨_, rfl⟩
    replace hv := hv r8 er8
    rw [← er8] at hw9
    refine e_iconst (pc := 34) (v := 1) dX11_tear_34 (by decide) ?_
    exact e_zreturn (pc := 35) dX11_tear_35 rfl (Or.inr rfl) ⟨r8, hw9, _, rfl, hv⟩
  · replace hv := hv.2 h4
    refine e_aload_n (pc := 11) (i := 0) dX11_tear_11 rfl rfl ?_
    refine e_iload_n (pc := 12) (i := 3) dX11_tear_12 rfl rfl ?_
    refine e_callV (pc := 13) (ci := 11) (st := []) (rc' := 0) (rs' := 0) (B' := bX11_no) [vI x1] dX11_tear_13 vRX11_238 kX11_no (by decide) rfl (hw2.K hS) rfl rfl (Nat.le_of_ble_eq_true rfl) ⟨Nat.le_of_ble_eq_true rfl, Nat.le_of_ble_eq_true rfl⟩ rfl rfl (hv w2 hw2) (fun zx10 w11 hq => ?_)
    obtain ⟨r12, hw11, x10, ex10, hv⟩ := hq
    subst ex10
    show EJ X mX11_tear _ 0 0 _ _ (vI x10 :: []) w11
    exact e_zreturn (pc := 16) dX11_tear_16 rfl hv.1 ⟨r12, hw11, _, rfl, hv.2⟩
set_option maxRecDepth 100000 in
set_option maxHeartbeats 4000000 in
theorem pX11_day (X : Cx) (w0 : Wd) (m : Nat) (hS : Sh w0 m) (A : Int32 → Rs → Prop) (a1 : Int32) (r : Rs)
    (hv : ((a1 ≤ 36500) → (((sS r 39) ≤ a1) → ∀ r3 : Rs, r3 = uS r 39 a1 → ∀ r5 : Rs, r5 = uS r3 40 (-1) → ∀ r7 : Rs, r7 = uS r5 41 0 → A 1 r7) ∧ ((¬ (sS r 39) ≤ a1) → CM X w0 m bX11_no mX11_no [vI 8] r (pI fun x9 r11 => (x9 = 0 ∨ x9 = 1) ∧ A x9 r11))) ∧ ((¬ a1 ≤ 36500) → CM X w0 m bX11_no mX11_no [vI 5] r (pI fun x12 r14 => (x12 = 0 ∨ x12 = 1) ∧ A x12 r14))) :
    CM X w0 m bX11_day mX11_day [vI a1] r (pI A) := by
  intro w hW
  refine Ct.of (Q := qM w0 m (pI A)) (lv := [(0, vR m), (1, vI a1)]) rfl (Nat.le_of_ble_eq_true rfl) rfl ?_
  refine e_iload_n (pc := 0) (i := 1) dX11_day_0 rfl rfl ?_
  refine e_ldc (pc := 1) (v := 36500) dX11_day_1 (tb_a5 163 (by decide +kernel) rfl) ?_
  refine e_icmp_le (pc := 3) (tgt := 12) dX11_day_3 (by decide) (fun h1 => ?_) (fun h1 => ?_)
  · replace hv := hv.1 h1
    refine e_iload_n (pc := 12) (i := 1) dX11_day_12 rfl rfl ?_
    refine e_aload_n (pc := 13) (i := 0) dX11_day_13 rfl rfl ?_
    refine n_getS (pc := 14) hS hW 39 dX11_day_14 fRX11_166 rfl ?_
    refine e_icmp_ge (pc := 17) (tgt := 27) dX11_day_17 (by decide) (fun h2 => ?_) (fun h2 => ?_)
    · replace hv := hv.1 h2
      refine e_aload_n (pc := 27) (i := 0) dX11_day_27 rfl rfl ?_
      refine e_iload_n (pc := 28) (i := 1) dX11_day_28 rfl rfl ?_
      refine n_putS (pc := 29) hS hW 39 dX11_day_29 fRX11_166 rfl rfl (fun w4 hw4 => ?_)
      obtain ⟨r3, er3⟩ : ∃ r3 : Rs, r3 = uS r 39 a1 := ⟨_, rfl⟩
      replace hv := hv r3 er3
      rw [← er3] at hw4
      refine e_aload_n (pc := 32) (i := 0) dX11_day_32 rfl rfl ?_
      refine e_iconst (pc := 33) (v := (-1)) dX11_day_33 (by decide) ?_
      refine n_putS (pc := 34) hS hw4 40 dX11_day_34 fRX11_120 rfl rfl (fun w6 hw6 => ?_)
      obtain ⟨r5, er5⟩ : ∃ r5 : Rs, r5 = uS r3 40 (-1) := ⟨_, rfl⟩
      replace hv := hv r5 er5
      rw [← er5] at hw6
      refine e_aload_n (pc := 37) (i := 0) dX11_day_37 rfl rfl ?_
      refine e_iconst (pc := 38) (v := 0) dX11_day_38 (by decide) ?_
      refine n_putS (pc := 39) hS hw6 41 dX11_day_39 fRX11_163 rfl rfl (fun w8 hw8 => ?_)
      obtain ⟨r7, er7⟩ : ∃ r7 : Rs, r7 = uS r5 41 0 := ⟨_, rfl⟩
      replace hv := hv r7 er7
      rw [← er7] at hw8
      refine e_iconst (pc := 42) (v := 1) dX11_day_42 (by decide) ?_
      exact e_zreturn (pc := 43) dX11_day_43 rfl (Or.inr rfl) ⟨r7, hw8, _, rfl, hv⟩
    · replace hv := hv.2 h2
      refine e_aload_n (pc := 20) (i := 0) dX11_day_20 rfl rfl ?_
      refine e_bipush (pc := 21) (v := 8) dX11_day_21 (by decide) ?_
      refine e_callV (pc := 23) (ci := 11) (st := []) (rc' := 0) (rs' := 0) (B' := bX11_no) [vI 8] dX11_day_23 vRX11_238 kX11_no (by decide) rfl (hW.K hS) rfl rfl (Nat.le_of_ble_eq_true rfl) ⟨Nat.le_of_ble_eq_true rfl, Nat.le_of_ble_eq_true rfl⟩ rfl rfl (hv w hW) (fun zx9 w10 hq => ?_)
      obtain ⟨r11, hw10, x9, ex9, hv⟩ := hq
      subst ex9
      show EJ X mX11_day _ 0 0 _ _ (vI x9 :: []) w10
      exact e_zreturn (pc := 26) dX11_day_26 rfl hv.1 ⟨r11, hw10, _, rfl, hv.2⟩
  · replace hv := hv.2 h1
    refine e_aload_n (pc := 6) (i := 0) dX11_day_6 rfl rfl ?_
    refine e_iconst (pc := 7) (v := 5) dX11_day_7 (by decide) ?_
    refine e_callV (pc := 8) (ci := 11) (st := []) (rc' := 0) (rs' := 0) (B' := bX11_no) [vI 5] dX11_day_8 vRX11_238 kX11_no (by decide) rfl (hW.K hS) rfl rfl (Nat.le_of_ble_eq_true rfl) ⟨Nat.le_of_ble_eq_true rfl, Nat.le_of_ble_eq_true rfl⟩ rfl rfl (hv w hW) (fun zx12 w13 hq => ?_)
    obtain ⟨r14, hw13, x12, ex12, hv⟩ := hq
    subst ex12
    show EJ X mX11_day _ 0 0 _ _ (vI x12 :: []) w13
    exact e_zreturn (pc := 11) dX11_day_11 rfl hv.1 ⟨r14, hw13, _, rfl, hv.2⟩
set_option maxRecDepth 100000 in
set_option maxHeartbeats 4000000 in
theorem pX11_since (X : Cx) (w0 : Wd) (m : Nat) (hS : Sh w0 m) (A : Int32 → Rs → Prop) (a1 : Int32) (r : Rs)
    (hv : ((a1 < 0) → CM X w0 m bX11_no mX11_no [vI 5] r (pI fun x2 r4 => (x2 = 0 ∨ x2 = 1) ∧ A x2 r4)) ∧ ((¬ a1 < 0) → ((a1 ≤ (sS r 39)) → ∀ r6 : Rs, r6 = uS r 40 a1 → ∀ r8 : Rs, r8 = uS r6 41 0 → A 1 r8) ∧ ((¬ a1 ≤ (sS r 39)) → CM X w0 m bX11_no mX11_no [vI 5] r (pI fun x10 r12 => (x10 = 0 ∨ x10 = 1) ∧ A x10 r12)))) :
    CM X w0 m bX11_since mX11_since [vI a1] r (pI A) := by
  intro w hW
  refine Ct.of (Q := qM w0 m (pI A)) (lv := [(0, vR m), (1, vI a1)]) rfl (Nat.le_of_ble_eq_true rfl) rfl ?_
  refine e_iload_n (pc := 0) (i := 1) dX11_since_0 rfl rfl ?_
  refine e_if_lt (pc := 1) (tgt := 12) dX11_since_1 (by decide) (fun h1 => ?_) (fun h1 => ?_)
  · replace hv := hv.1 h1
    refine e_aload_n (pc := 12) (i := 0) dX11_since_12 rfl rfl ?_
    refine e_iconst (pc := 13) (v := 5) dX11_since_13 (by decide) ?_
    refine e_callV (pc := 14) (ci := 11) (st := []) (rc' := 0) (rs' := 0) (B' := bX11_no) [vI 5] dX11_since_14 vRX11_238 kX11_no (by decide) rfl (hW.K hS) rfl rfl (Nat.le_of_ble_eq_true rfl) ⟨Nat.le_of_ble_eq_true rfl, Nat.le_of_ble_eq_true rfl⟩ rfl rfl (hv w hW) (fun zx2 w3 hq => ?_)
    obtain ⟨r4, hw3, x2, ex2, hv⟩ := hq
    subst ex2
    show EJ X mX11_since _ 0 0 _ _ (vI x2 :: []) w3
    exact e_zreturn (pc := 17) dX11_since_17 rfl hv.1 ⟨r4, hw3, _, rfl, hv.2⟩
  · replace hv := hv.2 h1
    refine e_iload_n (pc := 4) (i := 1) dX11_since_4 rfl rfl ?_
    refine e_aload_n (pc := 5) (i := 0) dX11_since_5 rfl rfl ?_
    refine n_getS (pc := 6) hS hW 39 dX11_since_6 fRX11_166 rfl ?_
    refine e_icmp_le (pc := 9) (tgt := 18) dX11_since_9 (by decide) (fun h5 => ?_) (fun h5 => ?_)
    · replace hv := hv.1 h5
      refine e_aload_n (pc := 18) (i := 0) dX11_since_18 rfl rfl ?_
      refine e_iload_n (pc := 19) (i := 1) dX11_since_19 rfl rfl ?_
      refine n_putS (pc := 20) hS hW 40 dX11_since_20 fRX11_120 rfl rfl (fun w7 hw7 => ?_)
      obtain ⟨r6, er6⟩ : ∃ r6 : Rs, r6 = uS r 40 a1 := ⟨_, rfl⟩
      replace hv := hv r6 er6
      rw [← er6] at hw7
      refine e_aload_n (pc := 23) (i := 0) dX11_since_23 rfl rfl ?_
      refine e_iconst (pc := 24) (v := 0) dX11_since_24 (by decide) ?_
      refine n_putS (pc := 25) hS hw7 41 dX11_since_25 fRX11_163 rfl rfl (fun w9 hw9 => ?_)
      obtain ⟨r8, er8⟩ : ∃ r8 : Rs, r8 = uS r6 41 0 := ⟨_, rfl⟩
      replace hv := hv r8 er8
      rw [← er8] at hw9
      refine e_iconst (pc := 28) (v := 1) dX11_since_28 (by decide) ?_
      exact e_zreturn (pc := 29) dX11_since_29 rfl (Or.inr rfl) ⟨r8, hw9, _, rfl, hv⟩
    · replace hv := hv.2 h5
      refine e_aload_n (pc := 12) (i := 0) dX11_since_12 rfl rfl ?_
      refine e_iconst (pc := 13) (v := 5) dX11_since_13 (by decide) ?_
      refine e_callV (pc := 14) (ci := 11) (st := []) (rc' := 0) (rs' := 0) (B' := bX11_no) [vI 5] dX11_since_14 vRX11_238 kX11_no (by decide) rfl (hW.K hS) rfl rfl (Nat.le_of_ble_eq_true rfl) ⟨Nat.le_of_ble_eq_true rfl, Nat.le_of_ble_eq_true rfl⟩ rfl rfl (hv w hW) (fun zx10 w11 hq => ?_)
      obtain ⟨r12, hw11, x10, ex10, hv⟩ := hq
      subst ex10
      show EJ X mX11_since _ 0 0 _ _ (vI x10 :: []) w11
      exact e_zreturn (pc := 17) dX11_since_17 rfl hv.1 ⟨r12, hw11, _, rfl, hv.2⟩
abbrev iX11_make_111 (X : Cx) (w0 : Wd) (m : Nat) (A : Int32 → Rs → Prop) (l8 : Int32) (l9 : Int32) (r : Rs) : Prop := ∀ w, Wm w0 m r w → EJ X mX11_make (vw X bX11_make (qM w0 m (pI A))) 0 0 111 [(0, vR m), (8, vI l8), (9, vI l9)] [] w
set_option maxRecDepth 100000 in
set_option maxHeartbeats 4000000 in
theorem rX11_make_111 (X : Cx) (w0 : Wd) (m : Nat) (hS : Sh w0 m) (A : Int32 → Rs → Prop) (l8 : Int32) (l9 : Int32) (r : Rs)
    (hv : ((60 ≤ l9) → A l8 r) ∧ ((¬ 60 ≤ l9) → vp_in ((60 * l8) + l9) 18060 ∧ ∀ r3 : Rs, r3 = uI r 29 ((60 * l8) + l9).toNatClampNeg (-1) → iX11_make_111 X w0 m A l8 (l9 + 1) r3)) :
    iX11_make_111 X w0 m A l8 l9 r := by
  intro w hW
  refine e_iload (pc := 111) (i := 9) dX11_make_111 rfl ?_
  refine e_bipush (pc := 113) (v := 60) dX11_make_113 (by decide) ?_
  refine e_icmp_ge (pc := 115) (tgt := 138) dX11_make_115 (by decide) (fun h1 => ?_) (fun h1 => ?_)
  · replace hv := hv.1 h1
    refine e_iload (pc := 138) (i := 8) dX11_make_138 rfl ?_
    exact e_ireturn (pc := 140) dX11_make_140 rfl ⟨r, hW, _, rfl, hv⟩
  · replace hv := hv.2 h1
    refine e_aload_n (pc := 118) (i := 0) dX11_make_118 rfl rfl ?_
    refine n_get (pc := 119) hS hW 29 dX11_make_119 fRX11_96 rfl ?_
    refine e_bipush (pc := 122) (v := 60) dX11_make_122 (by decide) ?_
    refine e_iload (pc := 124) (i := 8) dX11_make_124 rfl ?_
    refine e_imul (pc := 126) dX11_make_126 ?_
    refine e_iload (pc := 127) (i := 9) dX11_make_127 rfl ?_
    refine e_iadd (pc := 129) dX11_make_129 ?_
    refine e_iconst (pc := 130) (v := (-1)) dX11_make_130 (by decide) ?_
    have hi2 : vp_in ((60 * l8) + l9) 18060 := hv.1
    replace hv := hv.2
    refine n_iast (pc := 131) (wa := w) hS hW 29 dX11_make_131 (by decide) rfl hi2 rfl (fun w4 hw4 => ?_)
    obtain ⟨r3, er3⟩ : ∃ r3 : Rs, r3 = uI r 29 ((60 * l8) + l9).toNatClampNeg (-1) := ⟨_, rfl⟩
    replace hv := hv r3 er3
    rw [← er3] at hw4
    refine e_iinc (pc := 132) (v := l9 + 1) (lv' := [(0, vR m), (8, vI l8), (9, vI (l9 + 1))]) dX11_make_132 rfl rfl (by decide) rfl ?_
    refine e_goto (pc := 135) (tgt := 111) dX11_make_135 (by decide) ?_
    exact hv w4 hw4
set_option maxRecDepth 100000 in
set_option maxHeartbeats 4000000 in
theorem pX11_make (X : Cx) (w0 : Wd) (m : Nat) (hS : Sh w0 m) (A : Int32 → Rs → Prop) (a1 : Int32) (a2 : Int32) (a3 : Int32) (a4 : Int32) (a5 : Int32) (a6 : Int64) (r : Rs)
    (hv : ∀ r1 : Rs, r1 = uS r 30 ((sS r 30) + 1) → vp_in (sS r1 30) 301 ∧ ∀ r4 : Rs, r4 = uI r1 3 (sS r1 30).toNatClampNeg a2 → vp_in (sS r1 30) 301 ∧ ∀ r7 : Rs, r7 = uI r4 4 (sS r1 30).toNatClampNeg a1 → ((¬ a3 = 0) → vp_in (sS r1 30) 301 ∧ ∀ r11 : Rs, r11 = uI r7 5 (sS r1 30).toNatClampNeg a3 → vp_in (sS r1 30) 301 ∧ ∀ r14 : Rs, r14 = uI r11 6 (sS r1 30).toNatClampNeg a4 → vp_in (sS r1 30) 301 ∧ ∀ r17 : Rs, r17 = uI r14 7 (sS r1 30).toNatClampNeg a5 → vp_in (sS r1 30) 301 ∧ ∀ r20 : Rs, r20 = uJ r17 8 (sS r1 30).toNatClampNeg a6 → vp_in (sS r1 30) 301 ∧ ∀ r23 : Rs, r23 = uI r20 9 (sS r1 30).toNatClampNeg 0 → vp_in (sS r1 30) 301 ∧ ∀ r26 : Rs, r26 = uI r23 16 (sS r1 30).toNatClampNeg (-1) → vp_in (sS r1 30) 301 ∧ ∀ r29 : Rs, r29 = uI r26 23 (sS r1 30).toNatClampNeg (-1) → vp_in (sS r1 30) 301 ∧ ∀ r32 : Rs, r32 = uI r29 27 (sS r1 30).toNatClampNeg (-1) → iX11_make_111 X w0 m A (sS r1 30) 0 r32) ∧ ((a3 = 0) → vp_in (sS r1 30) 301 ∧ ∀ r35 : Rs, r35 = uI r7 5 (sS r1 30).toNatClampNeg (sS r1 30) → vp_in (sS r1 30) 301 ∧ ∀ r38 : Rs, r38 = uI r35 6 (sS r1 30).toNatClampNeg a4 → vp_in (sS r1 30) 301 ∧ ∀ r41 : Rs, r41 = uI r38 7 (sS r1 30).toNatClampNeg a5 → vp_in (sS r1 30) 301 ∧ ∀ r44 : Rs, r44 = uJ r41 8 (sS r1 30).toNatClampNeg a6 → vp_in (sS r1 30) 301 ∧ ∀ r47 : Rs, r47 = uI r44 9 (sS r1 30).toNatClampNeg 0 → vp_in (sS r1 30) 301 ∧ ∀ r50 : Rs, r50 = uI r47 16 (sS r1 30).toNatClampNeg (-1) → vp_in (sS r1 30) 301 ∧ ∀ r53 : Rs, r53 = uI r50 23 (sS r1 30).toNatClampNeg (-1) → vp_in (sS r1 30) 301 ∧ ∀ r56 : Rs, r56 = uI r53 27 (sS r1 30).toNatClampNeg (-1) → iX11_make_111 X w0 m A (sS r1 30) 0 r56)) :
    CM X w0 m bX11_make mX11_make [vI a1, vI a2, vI a3, vI a4, vI a5, vJ a6] r (pI A) := by
  intro w hW
  refine Ct.of (Q := qM w0 m (pI A)) (lv := [(0, vR m), (1, vI a1), (2, vI a2), (3, vI a3), (4, vI a4), (5, vI a5), (6, vJ a6)]) rfl (Nat.le_of_ble_eq_true rfl) rfl ?_
  refine e_aload_n (pc := 0) (i := 0) dX11_make_0 rfl rfl ?_
  refine e_dup (pc := 1) dX11_make_1 rfl ?_
  refine n_getS (pc := 2) hS hW 30 dX11_make_2 fRX11_169 rfl ?_
  refine e_iconst (pc := 5) (v := 1) dX11_make_5 (by decide) ?_
  refine e_iadd (pc := 6) dX11_make_6 ?_
  refine n_putS (pc := 7) hS hW 30 dX11_make_7 fRX11_169 rfl rfl (fun w2 hw2 => ?_)
  obtain ⟨r1, er1⟩ : ∃ r1 : Rs, r1 = uS r 30 ((sS r 30) + 1) := ⟨_, rfl⟩
  replace hv := hv r1 er1
  rw [← er1] at hw2
  refine e_aload_n (pc := 10) (i := 0) dX11_make_10 rfl rfl ?_
  refine n_getS (pc := 11) hS hw2 30 dX11_make_11 fRX11_169 rfl ?_
  refine e_istore (pc := 14) (i := 8) (lv' := [(0, vR m), (1, vI a1), (2, vI a2), (3, vI a3), (4, vI a4), (5, vI a5), (6, vJ a6), (8, vI (sS r1 30))]) dX11_make_14 (by decide) rfl ?_
  refine e_aload_n (pc := 16) (i := 0) dX11_make_16 rfl rfl ?_
  refine n_get (pc := 17) hS hw2 3 dX11_make_17 fRX11_17 rfl ?_
  refine e_iload (pc := 20) (i := 8) dX11_make_20 rfl ?_
  refine e_iload_n (pc := 22) (i := 2) dX11_make_22 rfl rfl ?_
  have hi3 : vp_in (sS r1 30) 301 := hv.1
  replace hv := hv.2
  refine n_iast (pc := 23) (wa := w2) hS hw2 3 dX11_make_23 (by decide) rfl hi3 rfl (fun w5 hw5 => ?_)
  obtain ⟨r4, er4⟩ : ∃ r4 : Rs, r4 = uI r1 3 (sS r1 30).toNatClampNeg a2 := ⟨_, rfl⟩
  replace hv := hv r4 er4
  rw [← er4] at hw5
  refine e_aload_n (pc := 24) (i := 0) dX11_make_24 rfl rfl ?_
  refine n_get (pc := 25) hS hw5 4 dX11_make_25 fRX11_20 rfl ?_
  refine e_iload (pc := 28) (i := 8) dX11_make_28 rfl ?_
  refine e_iload_n (pc := 30) (i := 1) dX11_make_30 rfl rfl ?_
  have hi6 : vp_in (sS r1 30) 301 := hv.1
  replace hv := hv.2
  refine n_iast (pc := 31) (wa := w5) hS hw5 4 dX11_make_31 (by decide) rfl hi6 rfl (fun w8 hw8 => ?_)
  obtain ⟨r7, er7⟩ : ∃ r7 : Rs, r7 = uI r4 4 (sS r1 30).toNatClampNeg a1 := ⟨_, rfl⟩
  replace hv := hv r7 er7
  rw [← er7] at hw8
  refine e_aload_n (pc := 32) (i := 0) dX11_make_32 rfl rfl ?_
  refine n_get (pc := 33) hS hw8 5 dX11_make_33 fRX11_23 rfl ?_
  refine e_iload (pc := 36) (i := 8) dX11_make_36 rfl ?_
  refine e_iload_n (pc := 38) (i := 3) dX11_make_38 rfl rfl ?_
  refine e_if_ne (pc := 39) (tgt := 47) dX11_make_39 (by decide) (fun h9 => ?_) (fun h9 => ?_)
  · replace hv := hv.1 h9
    refine e_iload_n (pc := 47) (i := 3) dX11_make_47 rfl rfl ?_
    have hi10 : vp_in (sS r1 30) 301 := hv.1
    replace hv := hv.2
    refine n_iast (pc := 48) (wa := w8) hS hw8 5 dX11_make_48 (by decide) rfl hi10 rfl (fun w12 hw12 => ?_)
    obtain ⟨r11, er11⟩ : ∃ r11 : Rs, r11 = uI r7 5 (sS r1 30).toNatClampNeg a3 := ⟨_, rfl⟩
    replace hv := hv r11 er11
    rw [← er11] at hw12
    refine e_aload_n (pc := 49) (i := 0) dX11_make_49 rfl rfl ?_
    refine n_get (pc := 50) hS hw12 6 dX11_make_50 fRX11_26 rfl ?_
    refine e_iload (pc := 53) (i := 8) dX11_make_53 rfl ?_
    refine e_iload (pc := 55) (i := 4) dX11_make_55 rfl ?_
    have hi13 : vp_in (sS r1 30) 301 := hv.1
    replace hv := hv.2
    refine n_iast (pc := 57) (wa := w12) hS hw12 6 dX11_make_57 (by decide) rfl hi13 rfl (fun w15 hw15 => ?_)
    obtain ⟨r14, er14⟩ : ∃ r14 : Rs, r14 = uI r11 6 (sS r1 30).toNatClampNeg a4 := ⟨_, rfl⟩
    replace hv := hv r14 er14
    rw [← er14] at hw15
    refine e_aload_n (pc := 58) (i := 0) dX11_make_58 rfl rfl ?_
    refine n_get (pc := 59) hS hw15 7 dX11_make_59 fRX11_29 rfl ?_
    refine e_iload (pc := 62) (i := 8) dX11_make_62 rfl ?_
    refine e_iload (pc := 64) (i := 5) dX11_make_64 rfl ?_
    have hi16 : vp_in (sS r1 30) 301 := hv.1
    replace hv := hv.2
    refine n_iast (pc := 66) (wa := w15) hS hw15 7 dX11_make_66 (by decide) rfl hi16 rfl (fun w18 hw18 => ?_)
    obtain ⟨r17, er17⟩ : ∃ r17 : Rs, r17 = uI r14 7 (sS r1 30).toNatClampNeg a5 := ⟨_, rfl⟩
    replace hv := hv r17 er17
    rw [← er17] at hw18
    refine e_aload_n (pc := 67) (i := 0) dX11_make_67 rfl rfl ?_
    refine n_get (pc := 68) hS hw18 8 dX11_make_68 fRX11_32 rfl ?_
    refine e_iload (pc := 71) (i := 8) dX11_make_71 rfl ?_
    refine e_lload (pc := 73) (i := 6) dX11_make_73 rfl ?_
    have hi19 : vp_in (sS r1 30) 301 := hv.1
    replace hv := hv.2
    refine n_last (pc := 75) (wa := w18) hS hw18 8 dX11_make_75 (by decide) rfl hi19 rfl (fun w21 hw21 => ?_)
    obtain ⟨r20, er20⟩ : ∃ r20 : Rs, r20 = uJ r17 8 (sS r1 30).toNatClampNeg a6 := ⟨_, rfl⟩
    replace hv := hv r20 er20
    rw [← er20] at hw21
    refine e_aload_n (pc := 76) (i := 0) dX11_make_76 rfl rfl ?_
    refine n_get (pc := 77) hS hw21 9 dX11_make_77 fRX11_36 rfl ?_
    refine e_iload (pc := 80) (i := 8) dX11_make_80 rfl ?_
    refine e_iconst (pc := 82) (v := 0) dX11_make_82 (by decide) ?_
    have hi22 : vp_in (sS r1 30) 301 := hv.1
    replace hv := hv.2
    refine n_iast (pc := 83) (wa := w21) hS hw21 9 dX11_make_83 (by decide) rfl hi22 rfl (fun w24 hw24 => ?_)
    obtain ⟨r23, er23⟩ : ∃ r23 : Rs, r23 = uI r20 9 (sS r1 30).toNatClampNeg 0 := ⟨_, rfl⟩
    replace hv := hv r23 er23
    rw [← er23] at hw24
    refine e_aload_n (pc := 84) (i := 0) dX11_make_84 rfl rfl ?_
    refine n_get (pc := 85) hS hw24 16 dX11_make_85 fRX11_57 rfl ?_
    refine e_iload (pc := 88) (i := 8) dX11_make_88 rfl ?_
    refine e_iconst (pc := 90) (v := (-1)) dX11_make_90 (by decide) ?_
    have hi25 : vp_in (sS r1 30) 301 := hv.1
    replace hv := hv.2
    refine n_iast (pc := 91) (wa := w24) hS hw24 16 dX11_make_91 (by decide) rfl hi25 rfl (fun w27 hw27 => ?_)
    obtain ⟨r26, er26⟩ : ∃ r26 : Rs, r26 = uI r23 16 (sS r1 30).toNatClampNeg (-1) := ⟨_, rfl⟩
    replace hv := hv r26 er26
    rw [← er26] at hw27
    refine e_aload_n (pc := 92) (i := 0) dX11_make_92 rfl rfl ?_
    refine n_get (pc := 93) hS hw27 23 dX11_make_93 fRX11_78 rfl ?_
    refine e_iload (pc := 96) (i := 8) dX11_make_96 rfl ?_
    refine e_iconst (pc := 98) (v := (-1)) dX11_make_98 (by decide) ?_
    have hi28 : vp_in (sS r1 30) 301 := hv.1
    replace hv := hv.2
    refine n_iast (pc := 99) (wa := w27) hS hw27 23 dX11_make_99 (by decide) rfl hi28 rfl (fun w30 hw30 => ?_)
    obtain ⟨r29, er29⟩ : ∃ r29 : Rs, r29 = uI r26 23 (sS r1 30).toNatClampNeg (-1) := ⟨_, rfl⟩
    replace hv := hv r29 er29
    rw [← er29] at hw30
    refine e_aload_n (pc := 100) (i := 0) dX11_make_100 rfl rfl ?_
    refine n_get (pc := 101) hS hw30 27 dX11_make_101 fRX11_90 rfl ?_
    refine e_iload (pc := 104) (i := 8) dX11_make_104 rfl ?_
    refine e_iconst (pc := 106) (v := (-1)) dX11_make_106 (by decide) ?_
    have hi31 : vp_in (sS r1 30) 301 := hv.1
    replace hv := hv.2
    refine n_iast (pc := 107) (wa := w30) hS hw30 27 dX11_make_107 (by decide) rfl hi31 rfl (fun w33 hw33 => ?_)
    obtain ⟨r32, er32⟩ : ∃ r32 : Rs, r32 = uI r29 27 (sS r1 30).toNatClampNeg (-1) := ⟨_, rfl⟩
    replace hv := hv r32 er32
    rw [← er32] at hw33
    refine e_iconst (pc := 108) (v := 0) dX11_make_108 (by decide) ?_
    refine e_istore (pc := 109) (i := 9) (lv' := [(0, vR m), (1, vI a1), (2, vI a2), (3, vI a3), (4, vI a4), (5, vI a5), (6, vJ a6), (8, vI (sS r1 30)), (9, vI 0)]) dX11_make_109 (by decide) rfl ?_
    exact EJ.drop [0, 8, 9] rfl (hv w33 hw33)
  · replace hv := hv.2 h9
    refine e_iload (pc := 42) (i := 8) dX11_make_42 rfl ?_
    refine e_goto (pc := 44) (tgt := 48) dX11_make_44 (by decide) ?_
    have hi34 : vp_in (sS r1 30) 301 := hv.1
    replace hv := hv.2
    refine n_iast (pc := 48) (wa := w8) hS hw8 5 dX11_make_48 (by decide) rfl hi34 rfl (fun w36 hw36 => ?_)
    obtain ⟨r35, er35⟩ : ∃ r35 : Rs, r35 = uI r7 5 (sS r1 30).toNatClampNeg (sS r1 30) := ⟨_, rfl⟩
    replace hv := hv r35 er35
    rw [← er35] at hw36
    refine e_aload_n (pc := 49) (i := 0) dX11_make_49 rfl rfl ?_
    refine n_get (pc := 50) hS hw36 6 dX11_make_50 fRX11_26 rfl ?_
    refine e_iload (pc := 53) (i := 8) dX11_make_53 rfl ?_
    refine e_iload (pc := 55) (i := 4) dX11_make_55 rfl ?_
    have hi37 : vp_in (sS r1 30) 301 := hv.1
    replace hv := hv.2
    refine n_iast (pc := 57) (wa := w36) hS hw36 6 dX11_make_57 (by decide) rfl hi37 rfl (fun w39 hw39 => ?_)
    obtain ⟨r38, er38⟩ : ∃ r38 : Rs, r38 = uI r35 6 (sS r1 30).toNatClampNeg a4 := ⟨_, rfl⟩
    replace hv := hv r38 er38
    rw [← er38] at hw39
    refine e_aload_n (pc := 58) (i := 0) dX11_make_58 rfl rfl ?_
    refine n_get (pc := 59) hS hw39 7 dX11_make_59 fRX11_29 rfl ?_
    refine e_iload (pc := 62) (i := 8) dX11_make_62 rfl ?_
    refine e_iload (pc := 64) (i := 5) dX11_make_64 rfl ?_
    have hi40 : vp_in (sS r1 30) 301 := hv.1
    replace hv := hv.2
    refine n_iast (pc := 66) (wa := w39) hS hw39 7 dX11_make_66 (by decide) rfl hi40 rfl (fun w42 hw42 => ?_)
    obtain ⟨r41, er41⟩ : ∃ r41 : Rs, r41 = uI r38 7 (sS r1 30).toNatClampNeg a5 := ⟨_, rfl⟩
    replace hv := hv r41 er41
    rw [← er41] at hw42
    refine e_aload_n (pc := 67) (i := 0) dX11_make_67 rfl rfl ?_
    refine n_get (pc := 68) hS hw42 8 dX11_make_68 fRX11_32 rfl ?_
    refine e_iload (pc := 71) (i := 8) dX11_make_71 rfl ?_
    refine e_lload (pc := 73) (i := 6) dX11_make_73 rfl ?_
    have hi43 : vp_in (sS r1 30) 301 := hv.1
    replace hv := hv.2
    refine n_last (pc := 75) (wa := w42) hS hw42 8 dX11_make_75 (by decide) rfl hi43 rfl (fun w45 hw45 => ?_)
    obtain ⟨r44, er44⟩ : ∃ r44 : Rs, r44 = uJ r41 8 (sS r1 30).toNatClampNeg a6 := ⟨_, rfl⟩
    replace hv := hv r44 er44
    rw [← er44] at hw45
    refine e_aload_n (pc := 76) (i := 0) dX11_make_76 rfl rfl ?_
    refine n_get (pc := 77) hS hw45 9 dX11_make_77 fRX11_36 rfl ?_
    refine e_iload (pc := 80) (i := 8) dX11_make_80 rfl ?_
    refine e_iconst (pc := 82) (v := 0) dX11_make_82 (by decide) ?_
    have hi46 : vp_in (sS r1 30) 301 := hv.1
    replace hv := hv.2
    refine n_iast (pc := 83) (wa := w45) hS hw45 9 dX11_make_83 (by decide) rfl hi46 rfl (fun w48 hw48 => ?_)
    obtain ⟨r47, er47⟩ : ∃ r47 : Rs, r47 = uI r44 9 (sS r1 30).toNatClampNeg 0 := ⟨_, rfl⟩
    replace hv := hv r47 er47
    rw [← er47] at hw48
    refine e_aload_n (pc := 84) (i := 0) dX11_make_84 rfl rfl ?_
    refine n_get (pc := 85) hS hw48 16 dX11_make_85 fRX11_57 rfl ?_
    refine e_iload (pc := 88) (i := 8) dX11_make_88 rfl ?_
    refine e_iconst (pc := 90) (v := (-1)) dX11_make_90 (by decide) ?_
    have hi49 : vp_in (sS r1 30) 301 := hv.1
    replace hv := hv.2
    refine n_iast (pc := 91) (wa := w48) hS hw48 16 dX11_make_91 (by decide) rfl hi49 rfl (fun w51 hw51 => ?_)
    obtain ⟨r50, er50⟩ : ∃ r50 : Rs, r50 = uI r47 16 (sS r1 30).toNatClampNeg (-1) := ⟨_, rfl⟩
    replace hv := hv r50 er50
    rw [← er50] at hw51
    refine e_aload_n (pc := 92) (i := 0) dX11_make_92 rfl rfl ?_
    refine n_get (pc := 93) hS hw51 23 dX11_make_93 fRX11_78 rfl ?_
    refine e_iload (pc := 96) (i := 8) dX11_make_96 rfl ?_
    refine e_iconst (pc := 98) (v := (-1)) dX11_make_98 (by decide) ?_
    have hi52 : vp_in (sS r1 30) 301 := hv.1
    replace hv := hv.2
    refine n_iast (pc := 99) (wa := w51) hS hw51 23 dX11_make_99 (by decide) rfl hi52 rfl (fun w54 hw54 => ?_)
    obtain ⟨r53, er53⟩ : ∃ r53 : Rs, r53 = uI r50 23 (sS r1 30).toNatClampNeg (-1) := ⟨_, rfl⟩
    replace hv := hv r53 er53
    rw [← er53] at hw54
    refine e_aload_n (pc := 100) (i := 0) dX11_make_100 rfl rfl ?_
    refine n_get (pc := 101) hS hw54 27 dX11_make_101 fRX11_90 rfl ?_
    refine e_iload (pc := 104) (i := 8) dX11_make_104 rfl ?_
    refine e_iconst (pc := 106) (v := (-1)) dX11_make_106 (by decide) ?_
    have hi55 : vp_in (sS r1 30) 301 := hv.1
    replace hv := hv.2
    refine n_iast (pc := 107) (wa := w54) hS hw54 27 dX11_make_107 (by decide) rfl hi55 rfl (fun w57 hw57 => ?_)
    obtain ⟨r56, er56⟩ : ∃ r56 : Rs, r56 = uI r53 27 (sS r1 30).toNatClampNeg (-1) := ⟨_, rfl⟩
    replace hv := hv r56 er56
    rw [← er56] at hw57
    refine e_iconst (pc := 108) (v := 0) dX11_make_108 (by decide) ?_
    refine e_istore (pc := 109) (i := 9) (lv' := [(0, vR m), (1, vI a1), (2, vI a2), (3, vI a3), (4, vI a4), (5, vI a5), (6, vJ a6), (8, vI (sS r1 30)), (9, vI 0)]) dX11_make_109 (by decide) rfl ?_
    exact EJ.drop [0, 8, 9] rfl (hv w57 hw57)
abbrev iX11_wrongBits_24 (X : Cx) (w0 : Wd) (m : Nat) (A : Int32 → Rs → Prop) (l1 : Int32) (l2 : Int64) (l4 : Int32) (r : Rs) : Prop := ∀ w, Wm w0 m r w → EJ X mX11_wrongBits (vw X bX11_wrongBits (qM w0 m (pI A))) 0 0 24 [(0, vR m), (1, vI l1), (2, vJ l2), (4, vI l4)] [] w
set_option maxRecDepth 100000 in
set_option maxHeartbeats 4000000 in
theorem rX11_wrongBits_24 (X : Cx) (w0 : Wd) (m : Nat) (hS : Sh w0 m) (A : Int32 → Rs → Prop) (l1 : Int32) (l2 : Int64) (l4 : Int32) (r : Rs)
    (hv : vp_in l1 40 ∧ (((rI r 0 l1.toNatClampNeg) ≤ l4) → A 0 r) ∧ ((¬ (rI r 0 l1.toNatClampNeg) ≤ l4) → ((¬ (lg_cmp ((l2 >>> (l4.toInt64 &&& 63)) &&& 1) 1) = 0) → iX11_wrongBits_24 X w0 m A l1 l2 (l4 + 1) r) ∧ (((lg_cmp ((l2 >>> (l4.toInt64 &&& 63)) &&& 1) 1) = 0) → vp_in ((60 * l1) + l4) 2400 ∧ (((rI r 1 ((60 * l1) + l4).toNatClampNeg) = 0) → iX11_wrongBits_24 X w0 m A l1 l2 (l4 + 1) r) ∧ ((¬ (rI r 1 ((60 * l1) + l4).toNatClampNeg) = 0) → A 3 r)))) :
    iX11_wrongBits_24 X w0 m A l1 l2 l4 r := by
  intro w hW
  refine e_iload (pc := 24) (i := 4) dX11_wrongBits_24 rfl ?_
  refine e_aload_n (pc := 26) (i := 0) dX11_wrongBits_26 rfl rfl ?_
  refine n_get (pc := 27) hS hW 0 dX11_wrongBits_27 fRX11_7 rfl ?_
  refine e_iload_n (pc := 30) (i := 1) dX11_wrongBits_30 rfl rfl ?_
  have hi1 : vp_in l1 40 := hv.1
  replace hv := hv.2
  refine n_iald (pc := 31) (wa := w) hS hW 0 dX11_wrongBits_31 (by decide) rfl hi1 rfl ?_
  refine e_icmp_ge (pc := 32) (tgt := 69) dX11_wrongBits_32 (by decide) (fun h2 => ?_) (fun h2 => ?_)
  · replace hv := hv.1 h2
    refine e_iconst (pc := 69) (v := 0) dX11_wrongBits_69 (by decide) ?_
    exact e_ireturn (pc := 70) dX11_wrongBits_70 rfl ⟨r, hW, _, rfl, hv⟩
  · replace hv := hv.2 h2
    refine e_lload_n (pc := 35) (i := 2) dX11_wrongBits_35 rfl rfl ?_
    refine e_iload (pc := 36) (i := 4) dX11_wrongBits_36 rfl ?_
    refine e_lshr (pc := 38) dX11_wrongBits_38 ?_
    refine e_lconst (pc := 39) (v := 1) dX11_wrongBits_39 (by decide) ?_
    refine e_land (pc := 40) dX11_wrongBits_40 ?_
    refine e_lconst (pc := 41) (v := 1) dX11_wrongBits_41 (by decide) ?_
    refine e_lcmp (pc := 42) dX11_wrongBits_42 ?_
    refine e_if_ne (pc := 43) (tgt := 63) dX11_wrongBits_43 (by decide) (fun h3 => ?_) (fun h3 => ?_)
    · replace hv := hv.1 h3
      refine e_iinc (pc := 63) (v := l4 + 1) (lv' := [(0, vR m), (1, vI l1), (2, vJ l2), (4, vI (l4 + 1))]) dX11_wrongBits_63 rfl rfl (by decide) rfl ?_
      refine e_goto (pc := 66) (tgt := 24) dX11_wrongBits_66 (by decide) ?_
      exact hv w hW
    · replace hv := hv.2 h3
      refine e_aload_n (pc := 46) (i := 0) dX11_wrongBits_46 rfl rfl ?_
      refine n_get (pc := 47) hS hW 1 dX11_wrongBits_47 fRX11_13 rfl ?_
      refine e_bipush (pc := 50) (v := 60) dX11_wrongBits_50 (by decide) ?_
      refine e_iload_n (pc := 52) (i := 1) dX11_wrongBits_52 rfl rfl ?_
      refine e_imul (pc := 53) dX11_wrongBits_53 ?_
      refine e_iload (pc := 54) (i := 4) dX11_wrongBits_54 rfl ?_
      refine e_iadd (pc := 56) dX11_wrongBits_56 ?_
      have hi4 : vp_in ((60 * l1) + l4) 2400 := hv.1
      replace hv := hv.2
      refine n_zald (pc := 57) (wa := w) hS hW 1 dX11_wrongBits_57 (by decide) rfl hi4 rfl ?_
      refine e_if_eq (pc := 58) (tgt := 63) dX11_wrongBits_58 (by decide) (fun h5 => ?_) (fun h5 => ?_)
      · replace hv := hv.1 h5
        refine e_iinc (pc := 63) (v := l4 + 1) (lv' := [(0, vR m), (1, vI l1), (2, vJ l2), (4, vI (l4 + 1))]) dX11_wrongBits_63 rfl rfl (by decide) rfl ?_
        refine e_goto (pc := 66) (tgt := 24) dX11_wrongBits_66 (by decide) ?_
        exact hv w hW
      · replace hv := hv.2 h5
        refine e_iconst (pc := 61) (v := 3) dX11_wrongBits_61 (by decide) ?_
        exact e_ireturn (pc := 62) dX11_wrongBits_62 rfl ⟨r, hW, _, rfl, hv⟩
set_option maxRecDepth 100000 in
set_option maxHeartbeats 4000000 in
theorem pX11_wrongBits (X : Cx) (w0 : Wd) (m : Nat) (hS : Sh w0 m) (A : Int32 → Rs → Prop) (a1 : Int32) (a2 : Int64) (r : Rs)
    (hv : (((lg_cmp a2 0) = 0) → A 2 r) ∧ ((¬ (lg_cmp a2 0) = 0) → vp_in a1 40 ∧ (((lg_cmp (a2 >>> ((rI r 0 a1.toNatClampNeg).toInt64 &&& 63)) 0) = 0) → iX11_wrongBits_24 X w0 m A a1 a2 0 r) ∧ ((¬ (lg_cmp (a2 >>> ((rI r 0 a1.toNatClampNeg).toInt64 &&& 63)) 0) = 0) → A 2 r))) :
    CM X w0 m bX11_wrongBits mX11_wrongBits [vI a1, vJ a2] r (pI A) := by
  intro w hW
  refine Ct.of (Q := qM w0 m (pI A)) (lv := [(0, vR m), (1, vI a1), (2, vJ a2)]) rfl (Nat.le_of_ble_eq_true rfl) rfl ?_
  refine e_lload_n (pc := 0) (i := 2) dX11_wrongBits_0 rfl rfl ?_
  refine e_lconst (pc := 1) (v := 0) dX11_wrongBits_1 (by decide) ?_
  refine e_lcmp (pc := 2) dX11_wrongBits_2 ?_
  refine e_if_eq (pc := 3) (tgt := 19) dX11_wrongBits_3 (by decide) (fun h1 => ?_) (fun h1 => ?_)
  · replace hv := hv.1 h1
    refine e_iconst (pc := 19) (v := 2) dX11_wrongBits_19 (by decide) ?_
    exact e_ireturn (pc := 20) dX11_wrongBits_20 rfl ⟨r, hW, _, rfl, hv⟩
  · replace hv := hv.2 h1
    refine e_lload_n (pc := 6) (i := 2) dX11_wrongBits_6 rfl rfl ?_
    refine e_aload_n (pc := 7) (i := 0) dX11_wrongBits_7 rfl rfl ?_
    refine n_get (pc := 8) hS hW 0 dX11_wrongBits_8 fRX11_7 rfl ?_
    refine e_iload_n (pc := 11) (i := 1) dX11_wrongBits_11 rfl rfl ?_
    have hi2 : vp_in a1 40 := hv.1
    replace hv := hv.2
    refine n_iald (pc := 12) (wa := w) hS hW 0 dX11_wrongBits_12 (by decide) rfl hi2 rfl ?_
    refine e_lshr (pc := 13) dX11_wrongBits_13 ?_
    refine e_lconst (pc := 14) (v := 0) dX11_wrongBits_14 (by decide) ?_
    refine e_lcmp (pc := 15) dX11_wrongBits_15 ?_
    refine e_if_eq (pc := 16) (tgt := 21) dX11_wrongBits_16 (by decide) (fun h3 => ?_) (fun h3 => ?_)
    · replace hv := hv.1 h3
      refine e_iconst (pc := 21) (v := 0) dX11_wrongBits_21 (by decide) ?_
      refine e_istore (pc := 22) (i := 4) (lv' := [(0, vR m), (1, vI a1), (2, vJ a2), (4, vI 0)]) dX11_wrongBits_22 (by decide) rfl ?_
      exact hv w hW
    · replace hv := hv.2 h3
      refine e_iconst (pc := 19) (v := 2) dX11_wrongBits_19 (by decide) ?_
      exact e_ireturn (pc := 20) dX11_wrongBits_20 rfl ⟨r, hW, _, rfl, hv⟩
abbrev iX11_enter_58 (X : Cx) (w0 : Wd) (m : Nat) (A : Int32 → Rs → Prop) (l1 : Int32) (l2 : Int32) (l3 : Int64) (l5 : Int32) (l6 : Int64) (s0 : Int32) (r : Rs) : Prop := ∀ w, Wm w0 m r w → EJ X mX11_enter (vw X bX11_enter (qM w0 m (pI A))) 0 0 58 [(0, vR m), (1, vI l1), (2, vI l2), (3, vJ l3), (5, vI l5), (6, vJ l6)] [vI s0] w
set_option maxRecDepth 100000 in
set_option maxHeartbeats 4000000 in
theorem rX11_enter_58 (X : Cx) (w0 : Wd) (m : Nat) (hS : Sh w0 m) (A : Int32 → Rs → Prop) (l1 : Int32) (l2 : Int32) (l3 : Int64) (l5 : Int32) (l6 : Int64) (s0 : Int32) (r : Rs)
    (hv : ((l2 < 1) → CM X w0 m bX11_refuse mX11_refuse [vI 5] r (pI fun x2 r4 => A x2 r4)) ∧ ((¬ l2 < 1) → ((6 < l2) → CM X w0 m bX11_refuse mX11_refuse [vI 5] r (pI fun x6 r8 => A x6 r8)) ∧ ((¬ 6 < l2) → (((lg_cmp l3 0) < 0) → CM X w0 m bX11_refuse mX11_refuse [vI 5] r (pI fun x10 r12 => A x10 r12)) ∧ ((¬ (lg_cmp l3 0) < 0) → ((0 < (lg_cmp l3 999999999999)) → CM X w0 m bX11_refuse mX11_refuse [vI 5] r (pI fun x14 r16 => A x14 r16)) ∧ ((¬ 0 < (lg_cmp l3 999999999999)) → ((l5 < 0) → CM X w0 m bX11_refuse mX11_refuse [vI 5] r (pI fun x18 r20 => A x18 r20)) ∧ ((¬ l5 < 0) → ((l5 ≤ s0) → ((¬ (sS r 30) = 300) → ((¬ l2 = 3) → CM X w0 m bX11_make mX11_make [vI l1, vI l2, vI 0, vI 0, vI 0, vJ l3] r (pI fun x24 r26 => vp_in x24 301 ∧ ∀ r28 : Rs, r28 = uJ r26 10 x24.toNatClampNeg l6 → vp_in x24 301 ∧ ∀ r31 : Rs, r31 = uI r28 11 x24.toNatClampNeg l5 → vp_in x24 301 ∧ ∀ r34 : Rs, r34 = uJ r31 12 x24.toNatClampNeg l3 → CM X w0 m bX11_dateNow mX11_dateNow [] r34 (pI fun x36 r38 => vp_in x24 301 ∧ ∀ r40 : Rs, r40 = uI r38 13 x24.toNatClampNeg x36 → vp_in x24 301 ∧ ∀ r43 : Rs, r43 = uI r40 14 x24.toNatClampNeg (sS r40 39) → vp_in x24 301 ∧ vp_in x24 301 ∧ ∀ r47 : Rs, r47 = uI r43 17 x24.toNatClampNeg (rI r43 13 x24.toNatClampNeg) → vp_in x24 301 ∧ ∀ r50 : Rs, r50 = uI r47 20 x24.toNatClampNeg 36501 → vp_in x24 301 ∧ ∀ r53 : Rs, r53 = uI r50 21 x24.toNatClampNeg 2 → ∀ r55 : Rs, r55 = uS r53 41 0 → A x24 r55))) ∧ ((l2 = 3) → CM X w0 m bX11_make mX11_make [vI l1, vI l2, vI 0, vI 0, vI 0, vJ 0] r (pI fun x57 r59 => vp_in x57 301 ∧ ∀ r61 : Rs, r61 = uJ r59 10 x57.toNatClampNeg l6 → vp_in x57 301 ∧ ∀ r64 : Rs, r64 = uI r61 11 x57.toNatClampNeg l5 → vp_in x57 301 ∧ ∀ r67 : Rs, r67 = uJ r64 12 x57.toNatClampNeg l3 → CM X w0 m bX11_dateNow mX11_dateNow [] r67 (pI fun x69 r71 => vp_in x57 301 ∧ ∀ r73 : Rs, r73 = uI r71 13 x57.toNatClampNeg x69 → vp_in x57 301 ∧ ∀ r76 : Rs, r76 = uI r73 14 x57.toNatClampNeg (sS r73 39) → vp_in x57 301 ∧ vp_in x57 301 ∧ ∀ r80 : Rs, r80 = uI r76 17 x57.toNatClampNeg (rI r76 13 x57.toNatClampNeg) → vp_in x57 301 ∧ ∀ r83 : Rs, r83 = uI r80 20 x57.toNatClampNeg 36501 → vp_in x57 301 ∧ ∀ r86 : Rs, r86 = uI r83 21 x57.toNatClampNeg 2 → ∀ r88 : Rs, r88 = uS r86 41 0 → A x57 r88)))) ∧ (((sS r 30) = 300) → CM X w0 m bX11_refuse mX11_refuse [vI 10] r (pI fun x90 r92 => A x90 r92))) ∧ ((¬ l5 ≤ s0) → CM X w0 m bX11_refuse mX11_refuse [vI 5] r (pI fun x93 r95 => A x93 r95)))))))) :
    iX11_enter_58 X w0 m A l1 l2 l3 l5 l6 s0 r := by
  intro w hW
  refine e_istore (pc := 58) (i := 9) (lv' := [(0, vR m), (1, vI l1), (2, vI l2), (3, vJ l3), (5, vI l5), (6, vJ l6), (9, vI s0)]) dX11_enter_58 (by decide) rfl ?_
  refine e_iload_n (pc := 60) (i := 2) dX11_enter_60 rfl rfl ?_
  refine e_iconst (pc := 61) (v := 1) dX11_enter_61 (by decide) ?_
  refine e_icmp_lt (pc := 62) (tgt := 97) dX11_enter_62 (by decide) (fun h1 => ?_) (fun h1 => ?_)
  · replace hv := hv.1 h1
    refine e_aload_n (pc := 97) (i := 0) dX11_enter_97 rfl rfl ?_
    refine e_iconst (pc := 98) (v := 5) dX11_enter_98 (by decide) ?_
    refine e_callV (pc := 99) (ci := 11) (st := []) (rc' := 0) (rs' := 0) (B' := bX11_refuse) [vI 5] dX11_enter_99 vRX11_231 kX11_refuse (by decide) rfl (hW.K hS) rfl rfl (Nat.le_of_ble_eq_true rfl) ⟨Nat.le_of_ble_eq_true rfl, Nat.le_of_ble_eq_true rfl⟩ rfl rfl (hv w hW) (fun zx2 w3 hq => ?_)
    obtain ⟨r4, hw3, x2, ex2, hv⟩ := hq
    subst ex2
    show EJ X mX11_enter _ 0 0 _ _ (vI x2 :: []) w3
    exact e_ireturn (pc := 102) dX11_enter_102 rfl ⟨r4, hw3, _, rfl, hv⟩
  · replace hv := hv.2 h1
    refine e_iload_n (pc := 65) (i := 2) dX11_enter_65 rfl rfl ?_
    refine e_bipush (pc := 66) (v := 6) dX11_enter_66 (by decide) ?_
    refine e_icmp_gt (pc := 68) (tgt := 97) dX11_enter_68 (by decide) (fun h5 => ?_) (fun h5 => ?_)
    · replace hv := hv.1 h5
      refine e_aload_n (pc := 97) (i := 0) dX11_enter_97 rfl rfl ?_
      refine e_iconst (pc := 98) (v := 5) dX11_enter_98 (by decide) ?_
      refine e_callV (pc := 99) (ci := 11) (st := []) (rc' := 0) (rs' := 0) (B' := bX11_refuse) [vI 5] dX11_enter_99 vRX11_231 kX11_refuse (by decide) rfl (hW.K hS) rfl rfl (Nat.le_of_ble_eq_true rfl) ⟨Nat.le_of_ble_eq_true rfl, Nat.le_of_ble_eq_true rfl⟩ rfl rfl (hv w hW) (fun zx6 w7 hq => ?_)
      obtain ⟨r8, hw7, x6, ex6, hv⟩ := hq
      subst ex6
      show EJ X mX11_enter _ 0 0 _ _ (vI x6 :: []) w7
      exact e_ireturn (pc := 102) dX11_enter_102 rfl ⟨r8, hw7, _, rfl, hv⟩
    · replace hv := hv.2 h5
      refine e_lload_n (pc := 71) (i := 3) dX11_enter_71 rfl rfl ?_
      refine e_lconst (pc := 72) (v := 0) dX11_enter_72 (by decide) ?_
      refine e_lcmp (pc := 73) dX11_enter_73 ?_
      refine e_if_lt (pc := 74) (tgt := 97) dX11_enter_74 (by decide) (fun h9 => ?_) (fun h9 => ?_)
      · replace hv := hv.1 h9
        refine e_aload_n (pc := 97) (i := 0) dX11_enter_97 rfl rfl ?_
        refine e_iconst (pc := 98) (v := 5) dX11_enter_98 (by decide) ?_
        refine e_callV (pc := 99) (ci := 11) (st := []) (rc' := 0) (rs' := 0) (B' := bX11_refuse) [vI 5] dX11_enter_99 vRX11_231 kX11_refuse (by decide) rfl (hW.K hS) rfl rfl (Nat.le_of_ble_eq_true rfl) ⟨Nat.le_of_ble_eq_true rfl, Nat.le_of_ble_eq_true rfl⟩ rfl rfl (hv w hW) (fun zx10 w11 hq => ?_)
        obtain ⟨r12, hw11, x10, ex10, hv⟩ := hq
        subst ex10
        show EJ X mX11_enter _ 0 0 _ _ (vI x10 :: []) w11
        exact e_ireturn (pc := 102) dX11_enter_102 rfl ⟨r12, hw11, _, rfl, hv⟩
      · replace hv := hv.2 h9
        refine e_lload_n (pc := 77) (i := 3) dX11_enter_77 rfl rfl ?_
        refine e_ldc2 (pc := 78) (v := 999999999999) dX11_enter_78 (tb_a5 176 (by decide +kernel) rfl) ?_
        refine e_lcmp (pc := 81) dX11_enter_81 ?_
        refine e_if_gt (pc := 82) (tgt := 97) dX11_enter_82 (by decide) (fun h13 => ?_) (fun h13 => ?_)
        · replace hv := hv.1 h13
          refine e_aload_n (pc := 97) (i := 0) dX11_enter_97 rfl rfl ?_
          refine e_iconst (pc := 98) (v := 5) dX11_enter_98 (by decide) ?_
          refine e_callV (pc := 99) (ci := 11) (st := []) (rc' := 0) (rs' := 0) (B' := bX11_refuse) [vI 5] dX11_enter_99 vRX11_231 kX11_refuse (by decide) rfl (hW.K hS) rfl rfl (Nat.le_of_ble_eq_true rfl) ⟨Nat.le_of_ble_eq_true rfl, Nat.le_of_ble_eq_true rfl⟩ rfl rfl (hv w hW) (fun zx14 w15 hq => ?_)
          obtain ⟨r16, hw15, x14, ex14, hv⟩ := hq
          subst ex14
          show EJ X mX11_enter _ 0 0 _ _ (vI x14 :: []) w15
          exact e_ireturn (pc := 102) dX11_enter_102 rfl ⟨r16, hw15, _, rfl, hv⟩
        · replace hv := hv.2 h13
          refine e_iload (pc := 85) (i := 5) dX11_enter_85 rfl ?_
          refine e_if_lt (pc := 87) (tgt := 97) dX11_enter_87 (by decide) (fun h17 => ?_) (fun h17 => ?_)
          · replace hv := hv.1 h17
            refine e_aload_n (pc := 97) (i := 0) dX11_enter_97 rfl rfl ?_
            refine e_iconst (pc := 98) (v := 5) dX11_enter_98 (by decide) ?_
            refine e_callV (pc := 99) (ci := 11) (st := []) (rc' := 0) (rs' := 0) (B' := bX11_refuse) [vI 5] dX11_enter_99 vRX11_231 kX11_refuse (by decide) rfl (hW.K hS) rfl rfl (Nat.le_of_ble_eq_true rfl) ⟨Nat.le_of_ble_eq_true rfl, Nat.le_of_ble_eq_true rfl⟩ rfl rfl (hv w hW) (fun zx18 w19 hq => ?_)
            obtain ⟨r20, hw19, x18, ex18, hv⟩ := hq
            subst ex18
            show EJ X mX11_enter _ 0 0 _ _ (vI x18 :: []) w19
            exact e_ireturn (pc := 102) dX11_enter_102 rfl ⟨r20, hw19, _, rfl, hv⟩
          · replace hv := hv.2 h17
            refine e_iload (pc := 90) (i := 5) dX11_enter_90 rfl ?_
            refine e_iload (pc := 92) (i := 9) dX11_enter_92 rfl ?_
            refine e_icmp_le (pc := 94) (tgt := 103) dX11_enter_94 (by decide) (fun h21 => ?_) (fun h21 => ?_)
            · replace hv := hv.1 h21
              refine e_aload_n (pc := 103) (i := 0) dX11_enter_103 rfl rfl ?_
              refine n_getS (pc := 104) hS hW 30 dX11_enter_104 fRX11_169 rfl ?_
              refine e_sipush (pc := 107) (v := 300) dX11_enter_107 (by decide) ?_
              refine e_icmp_ne (pc := 110) (tgt := 120) dX11_enter_110 (by decide) (fun h22 => ?_) (fun h22 => ?_)
              · replace hv := hv.1 h22
                refine e_aload_n (pc := 120) (i := 0) dX11_enter_120 rfl rfl ?_
                refine e_iload_n (pc := 121) (i := 1) dX11_enter_121 rfl rfl ?_
                refine e_iload_n (pc := 122) (i := 2) dX11_enter_122 rfl rfl ?_
                refine e_iconst (pc := 123) (v := 0) dX11_enter_123 (by decide) ?_
                refine e_iconst (pc := 124) (v := 0) dX11_enter_124 (by decide) ?_
                refine e_iconst (pc := 125) (v := 0) dX11_enter_125 (by decide) ?_
                refine e_iload_n (pc := 126) (i := 2) dX11_enter_126 rfl rfl ?_
                refine e_iconst (pc := 127) (v := 3) dX11_enter_127 (by decide) ?_
                refine e_icmp_ne (pc := 128) (tgt := 135) dX11_enter_128 (by decide) (fun h23 => ?_) (fun h23 => ?_)
                · replace hv := hv.1 h23
                  refine e_lload_n (pc := 135) (i := 3) dX11_enter_135 rfl rfl ?_
                  refine e_callV (pc := 136) (ci := 11) (st := []) (rc' := 0) (rs' := 0) (B' := bX11_make) [vI l1, vI l2, vI 0, vI 0, vI 0, vJ l3] dX11_enter_136 vRX11_248 kX11_make (by decide) rfl (hW.K hS) rfl rfl (Nat.le_of_ble_eq_true rfl) ⟨Nat.le_of_ble_eq_true rfl, Nat.le_of_ble_eq_true rfl⟩ rfl rfl (hv w hW) (fun zx24 w25 hq => ?_)
                  obtain ⟨r26, hw25, x24, ex24, hv⟩ := hq
                  subst ex24
                  show EJ X mX11_enter _ 0 0 _ _ (vI x24 :: []) w25
                  refine e_istore (pc := 139) (i := 10) (lv' := [(0, vR m), (1, vI l1), (2, vI l2), (3, vJ l3), (5, vI l5), (6, vJ l6), (9, vI s0), (10, vI x24)]) dX11_enter_139 (by decide) rfl ?_
                  refine e_aload_n (pc := 141) (i := 0) dX11_enter_141 rfl rfl ?_
                  refine n_get (pc := 142) hS hw25 10 dX11_enter_142 fRX11_39 rfl ?_
                  refine e_iload (pc := 145) (i := 10) dX11_enter_145 rfl ?_
                  refine e_lload (pc := 147) (i := 6) dX11_enter_147 rfl ?_
                  have hi27 : vp_in x24 301 := hv.1
                  replace hv := hv.2
                  refine n_last (pc := 149) (wa := w25) hS hw25 10 dX11_enter_149 (by decide) rfl hi27 rfl (fun w29 hw29 => ?_)
                  obtain ⟨r28, er28⟩ : ∃ r28 : Rs, r28 = uJ r26 10 x24.toNatClampNeg l6 := ⟨_, rfl⟩
                  replace hv := hv r28 er28
                  rw [← er28] at hw29
                  refine e_aload_n (pc := 150) (i := 0) dX11_enter_150 rfl rfl ?_
                  refine n_get (pc := 151) hS hw29 11 dX11_enter_151 fRX11_42 rfl ?_
                  refine e_iload (pc := 154) (i := 10) dX11_enter_154 rfl ?_
                  refine e_iload (pc := 156) (i := 5) dX11_enter_156 rfl ?_
                  have hi30 : vp_in x24 301 := hv.1
                  replace hv := hv.2
                  refine n_iast (pc := 158) (wa := w29) hS hw29 11 dX11_enter_158 (by decide) rfl hi30 rfl (fun w32 hw32 => ?_)
                  obtain ⟨r31, er31⟩ : ∃ r31 : Rs, r31 = uI r28 11 x24.toNatClampNeg l5 := ⟨_, rfl⟩
                  replace hv := hv r31 er31
                  rw [← er31] at hw32
                  refine e_aload_n (pc := 159) (i := 0) dX11_enter_159 rfl rfl ?_
                  refine n_get (pc := 160) hS hw32 12 dX11_enter_160 fRX11_45 rfl ?_
                  refine e_iload (pc := 163) (i := 10) dX11_enter_163 rfl ?_
                  refine e_lload_n (pc := 165) (i := 3) dX11_enter_165 rfl rfl ?_
                  have hi33 : vp_in x24 301 := hv.1
                  replace hv := hv.2
                  refine n_last (pc := 166) (wa := w32) hS hw32 12 dX11_enter_166 (by decide) rfl hi33 rfl (fun w35 hw35 => ?_)
                  obtain ⟨r34, er34⟩ : ∃ r34 : Rs, r34 = uJ r31 12 x24.toNatClampNeg l3 := ⟨_, rfl⟩
                  replace hv := hv r34 er34
                  rw [← er34] at hw35
                  refine e_aload_n (pc := 167) (i := 0) dX11_enter_167 rfl rfl ?_
                  refine n_get (pc := 168) hS hw35 13 dX11_enter_168 fRX11_48 rfl ?_
                  refine e_iload (pc := 171) (i := 10) dX11_enter_171 rfl ?_
                  refine e_aload_n (pc := 173) (i := 0) dX11_enter_173 rfl rfl ?_
                  refine e_callV (pc := 174) (ci := 11) (st := [vI x24, vR (wR w35 11 13 m)]) (rc' := 0) (rs' := 0) (B' := bX11_dateNow) [] dX11_enter_174 vRX11_252 kX11_dateNow (by decide) rfl (hw35.K hS) rfl rfl (Nat.le_of_ble_eq_true rfl) ⟨Nat.le_of_ble_eq_true rfl, Nat.le_of_ble_eq_true rfl⟩ rfl rfl (hv w35 hw35) (fun zx36 w37 hq => ?_)
                  obtain ⟨r38, hw37, x36, ex36, hv⟩ := hq
                  subst ex36
                  show EJ X mX11_enter _ 0 0 _ _ (vI x36 :: [vI x24, vR (wR w35 11 13 m)]) w37
                  have hi39 : vp_in x24 301 := hv.1
                  replace hv := hv.2
                  refine n_iast (pc := 177) (wa := w35) hS hw37 13 dX11_enter_177 (by decide) rfl hi39 (Wm.same hw35 hw37) (fun w41 hw41 => ?_)
                  obtain ⟨r40, er40⟩ : ∃ r40 : Rs, r40 = uI r38 13 x24.toNatClampNeg x36 := ⟨_, rfl⟩
                  replace hv := hv r40 er40
                  rw [← er40] at hw41
                  refine e_aload_n (pc := 178) (i := 0) dX11_enter_178 rfl rfl ?_
                  refine n_get (pc := 179) hS hw41 14 dX11_enter_179 fRX11_51 rfl ?_
                  refine e_iload (pc := 182) (i := 10) dX11_enter_182 rfl ?_
                  refine e_aload_n (pc := 184) (i := 0) dX11_enter_184 rfl rfl ?_
                  refine n_getS (pc := 185) hS hw41 39 dX11_enter_185 fRX11_166 rfl ?_
                  have hi42 : vp_in x24 301 := hv.1
                  replace hv := hv.2
                  refine n_iast (pc := 188) (wa := w41) hS hw41 14 dX11_enter_188 (by decide) rfl hi42 rfl (fun w44 hw44 => ?_)
                  obtain ⟨r43, er43⟩ : ∃ r43 : Rs, r43 = uI r40 14 x24.toNatClampNeg (sS r40 39) := ⟨_, rfl⟩
                  replace hv := hv r43 er43
                  rw [← er43] at hw44
                  refine e_aload_n (pc := 189) (i := 0) dX11_enter_189 rfl rfl ?_
                  refine n_get (pc := 190) hS hw44 17 dX11_enter_190 fRX11_60 rfl ?_
                  refine e_iload (pc := 193) (i := 10) dX11_enter_193 rfl ?_
                  refine e_aload_n (pc := 195) (i := 0) dX11_enter_195 rfl rfl ?_
                  refine n_get (pc := 196) hS hw44 13 dX11_enter_196 fRX11_48 rfl ?_
                  refine e_iload (pc := 199) (i := 10) dX11_enter_199 rfl ?_
                  have hi45 : vp_in x24 301 := hv.1
                  replace hv := hv.2
                  refine n_iald (pc := 201) (wa := w44) hS hw44 13 dX11_enter_201 (by decide) rfl hi45 rfl ?_
                  have hi46 : vp_in x24 301 := hv.1
                  replace hv := hv.2
                  refine n_iast (pc := 202) (wa := w44) hS hw44 17 dX11_enter_202 (by decide) rfl hi46 rfl (fun w48 hw48 => ?_)
                  obtain ⟨r47, er47⟩ : ∃ r47 : Rs, r47 = uI r43 17 x24.toNatClampNeg (rI r43 13 x24.toNatClampNeg) := ⟨_, rfl⟩
                  replace hv := hv r47 er47
                  rw [← er47] at hw48
                  refine e_aload_n (pc := 203) (i := 0) dX11_enter_203 rfl rfl ?_
                  refine n_get (pc := 204) hS hw48 20 dX11_enter_204 fRX11_69 rfl ?_
                  refine e_iload (pc := 207) (i := 10) dX11_enter_207 rfl ?_
                  refine e_ldc_w (pc := 209) (v := 36501) dX11_enter_209 (tb_a5 185 (by decide +kernel) rfl) ?_
                  have hi49 : vp_in x24 301 := hv.1
                  replace hv := hv.2
                  refine n_iast (pc := 212) (wa := w48) hS hw48 20 dX11_enter_212 (by decide) rfl hi49 rfl (fun w51 hw51 => ?_)
                  obtain ⟨r50, er50⟩ : ∃ r50 : Rs, r50 = uI r47 20 x24.toNatClampNeg 36501 := ⟨_, rfl⟩
                  replace hv := hv r50 er50
                  rw [← er50] at hw51
                  refine e_aload_n (pc := 213) (i := 0) dX11_enter_213 rfl rfl ?_
                  refine n_get (pc := 214) hS hw51 21 dX11_enter_214 fRX11_72 rfl ?_
                  refine e_iload (pc := 217) (i := 10) dX11_enter_217 rfl ?_
                  refine e_iconst (pc := 219) (v := 2) dX11_enter_219 (by decide) ?_
                  have hi52 : vp_in x24 301 := hv.1
                  replace hv := hv.2
                  refine n_iast (pc := 220) (wa := w51) hS hw51 21 dX11_enter_220 (by decide) rfl hi52 rfl (fun w54 hw54 => ?_)
                  obtain ⟨r53, er53⟩ : ∃ r53 : Rs, r53 = uI r50 21 x24.toNatClampNeg 2 := ⟨_, rfl⟩
                  replace hv := hv r53 er53
                  rw [← er53] at hw54
                  refine e_aload_n (pc := 221) (i := 0) dX11_enter_221 rfl rfl ?_
                  refine e_iconst (pc := 222) (v := 0) dX11_enter_222 (by decide) ?_
                  refine n_putS (pc := 223) hS hw54 41 dX11_enter_223 fRX11_163 rfl rfl (fun w56 hw56 => ?_)
                  obtain ⟨r55, er55⟩ : ∃ r55 : Rs, r55 = uS r53 41 0 := ⟨_, rfl⟩
                  replace hv := hv r55 er55
                  rw [← er55] at hw56
                  refine e_iload (pc := 226) (i := 10) dX11_enter_226 rfl ?_
                  exact e_ireturn (pc := 228) dX11_enter_228 rfl ⟨r55, hw56, _, rfl, hv⟩
                · replace hv := hv.2 h23
                  refine e_lconst (pc := 131) (v := 0) dX11_enter_131 (by decide) ?_
                  refine e_goto (pc := 132) (tgt := 136) dX11_enter_132 (by decide) ?_
                  refine e_callV (pc := 136) (ci := 11) (st := []) (rc' := 0) (rs' := 0) (B' := bX11_make) [vI l1, vI l2, vI 0, vI 0, vI 0, vJ 0] dX11_enter_136 vRX11_248 kX11_make (by decide) rfl (hW.K hS) rfl rfl (Nat.le_of_ble_eq_true rfl) ⟨Nat.le_of_ble_eq_true rfl, Nat.le_of_ble_eq_true rfl⟩ rfl rfl (hv w hW) (fun zx57 w58 hq => ?_)
                  obtain ⟨r59, hw58, x57, ex57, hv⟩ := hq
                  subst ex57
                  show EJ X mX11_enter _ 0 0 _ _ (vI x57 :: []) w58
                  refine e_istore (pc := 139) (i := 10) (lv' := [(0, vR m), (1, vI l1), (2, vI l2), (3, vJ l3), (5, vI l5), (6, vJ l6), (9, vI s0), (10, vI x57)]) dX11_enter_139 (by decide) rfl ?_
                  refine e_aload_n (pc := 141) (i := 0) dX11_enter_141 rfl rfl ?_
                  refine n_get (pc := 142) hS hw58 10 dX11_enter_142 fRX11_39 rfl ?_
                  refine e_iload (pc := 145) (i := 10) dX11_enter_145 rfl ?_
                  refine e_lload (pc := 147) (i := 6) dX11_enter_147 rfl ?_
                  have hi60 : vp_in x57 301 := hv.1
                  replace hv := hv.2
                  refine n_last (pc := 149) (wa := w58) hS hw58 10 dX11_enter_149 (by decide) rfl hi60 rfl (fun w62 hw62 => ?_)
                  obtain ⟨r61, er61⟩ : ∃ r61 : Rs, r61 = uJ r59 10 x57.toNatClampNeg l6 := ⟨_, rfl⟩
                  replace hv := hv r61 er61
                  rw [← er61] at hw62
                  refine e_aload_n (pc := 150) (i := 0) dX11_enter_150 rfl rfl ?_
                  refine n_get (pc := 151) hS hw62 11 dX11_enter_151 fRX11_42 rfl ?_
                  refine e_iload (pc := 154) (i := 10) dX11_enter_154 rfl ?_
                  refine e_iload (pc := 156) (i := 5) dX11_enter_156 rfl ?_
                  have hi63 : vp_in x57 301 := hv.1
                  replace hv := hv.2
                  refine n_iast (pc := 158) (wa := w62) hS hw62 11 dX11_enter_158 (by decide) rfl hi63 rfl (fun w65 hw65 => ?_)
                  obtain ⟨r64, er64⟩ : ∃ r64 : Rs, r64 = uI r61 11 x57.toNatClampNeg l5 := ⟨_, rfl⟩
                  replace hv := hv r64 er64
                  rw [← er64] at hw65
                  refine e_aload_n (pc := 159) (i := 0) dX11_enter_159 rfl rfl ?_
                  refine n_get (pc := 160) hS hw65 12 dX11_enter_160 fRX11_45 rfl ?_
                  refine e_iload (pc := 163) (i := 10) dX11_enter_163 rfl ?_
                  refine e_lload_n (pc := 165) (i := 3) dX11_enter_165 rfl rfl ?_
                  have hi66 : vp_in x57 301 := hv.1
                  replace hv := hv.2
                  refine n_last (pc := 166) (wa := w65) hS hw65 12 dX11_enter_166 (by decide) rfl hi66 rfl (fun w68 hw68 => ?_)
                  obtain ⟨r67, er67⟩ : ∃ r67 : Rs, r67 = uJ r64 12 x57.toNatClampNeg l3 := ⟨_, rfl⟩
                  replace hv := hv r67 er67
                  rw [← er67] at hw68
                  refine e_aload_n (pc := 167) (i := 0) dX11_enter_167 rfl rfl ?_
                  refine n_get (pc := 168) hS hw68 13 dX11_enter_168 fRX11_48 rfl ?_
                  refine e_iload (pc := 171) (i := 10) dX11_enter_171 rfl ?_
                  refine e_aload_n (pc := 173) (i := 0) dX11_enter_173 rfl rfl ?_
                  refine e_callV (pc := 174) (ci := 11) (st := [vI x57, vR (wR w68 11 13 m)]) (rc' := 0) (rs' := 0) (B' := bX11_dateNow) [] dX11_enter_174 vRX11_252 kX11_dateNow (by decide) rfl (hw68.K hS) rfl rfl (Nat.le_of_ble_eq_true rfl) ⟨Nat.le_of_ble_eq_true rfl, Nat.le_of_ble_eq_true rfl⟩ rfl rfl (hv w68 hw68) (fun zx69 w70 hq => ?_)
                  obtain ⟨r71, hw70, x69, ex69, hv⟩ := hq
                  subst ex69
                  show EJ X mX11_enter _ 0 0 _ _ (vI x69 :: [vI x57, vR (wR w68 11 13 m)]) w70
                  have hi72 : vp_in x57 301 := hv.1
                  replace hv := hv.2
                  refine n_iast (pc := 177) (wa := w68) hS hw70 13 dX11_enter_177 (by decide) rfl hi72 (Wm.same hw68 hw70) (fun w74 hw74 => ?_)
                  obtain ⟨r73, er73⟩ : ∃ r73 : Rs, r73 = uI r71 13 x57.toNatClampNeg x69 := ⟨_, rfl⟩
                  replace hv := hv r73 er73
                  rw [← er73] at hw74
                  refine e_aload_n (pc := 178) (i := 0) dX11_enter_178 rfl rfl ?_
                  refine n_get (pc := 179) hS hw74 14 dX11_enter_179 fRX11_51 rfl ?_
                  refine e_iload (pc := 182) (i := 10) dX11_enter_182 rfl ?_
                  refine e_aload_n (pc := 184) (i := 0) dX11_enter_184 rfl rfl ?_
                  refine n_getS (pc := 185) hS hw74 39 dX11_enter_185 fRX11_166 rfl ?_
                  have hi75 : vp_in x57 301 := hv.1
                  replace hv := hv.2
                  refine n_iast (pc := 188) (wa := w74) hS hw74 14 dX11_enter_188 (by decide) rfl hi75 rfl (fun w77 hw77 => ?_)
                  obtain ⟨r76, er76⟩ : ∃ r76 : Rs, r76 = uI r73 14 x57.toNatClampNeg (sS r73 39) := ⟨_, rfl⟩
                  replace hv := hv r76 er76
                  rw [← er76] at hw77
                  refine e_aload_n (pc := 189) (i := 0) dX11_enter_189 rfl rfl ?_
                  refine n_get (pc := 190) hS hw77 17 dX11_enter_190 fRX11_60 rfl ?_
                  refine e_iload (pc := 193) (i := 10) dX11_enter_193 rfl ?_
                  refine e_aload_n (pc := 195) (i := 0) dX11_enter_195 rfl rfl ?_
                  refine n_get (pc := 196) hS hw77 13 dX11_enter_196 fRX11_48 rfl ?_
                  refine e_iload (pc := 199) (i := 10) dX11_enter_199 rfl ?_
                  have hi78 : vp_in x57 301 := hv.1
                  replace hv := hv.2
                  refine n_iald (pc := 201) (wa := w77) hS hw77 13 dX11_enter_201 (by decide) rfl hi78 rfl ?_
                  have hi79 : vp_in x57 301 := hv.1
                  replace hv := hv.2
                  refine n_iast (pc := 202) (wa := w77) hS hw77 17 dX11_enter_202 (by decide) rfl hi79 rfl (fun w81 hw81 => ?_)
                  obtain ⟨r80, er80⟩ : ∃ r80 : Rs, r80 = uI r76 17 x57.toNatClampNeg (rI r76 13 x57.toNatClampNeg) := ⟨_, rfl⟩
                  replace hv := hv r80 er80
                  rw [← er80] at hw81
                  refine e_aload_n (pc := 203) (i := 0) dX11_enter_203 rfl rfl ?_
                  refine n_get (pc := 204) hS hw81 20 dX11_enter_204 fRX11_69 rfl ?_
                  refine e_iload (pc := 207) (i := 10) dX11_enter_207 rfl ?_
                  refine e_ldc_w (pc := 209) (v := 36501) dX11_enter_209 (tb_a5 185 (by decide +kernel) rfl) ?_
                  have hi82 : vp_in x57 301 := hv.1
                  replace hv := hv.2
                  refine n_iast (pc := 212) (wa := w81) hS hw81 20 dX11_enter_212 (by decide) rfl hi82 rfl (fun w84 hw84 => ?_)
                  obtain ⟨r83, er83⟩ : ∃ r83 : Rs, r83 = uI r80 20 x57.toNatClampNeg 36501 := ⟨_, rfl⟩
                  replace hv := hv r83 er83
                  rw [← er83] at hw84
                  refine e_aload_n (pc := 213) (i := 0) dX11_enter_213 rfl rfl ?_
                  refine n_get (pc := 214) hS hw84 21 dX11_enter_214 fRX11_72 rfl ?_
                  refine e_iload (pc := 217) (i := 10) dX11_enter_217 rfl ?_
                  refine e_iconst (pc := 219) (v := 2) dX11_enter_219 (by decide) ?_
                  have hi85 : vp_in x57 301 := hv.1
                  replace hv := hv.2
                  refine n_iast (pc := 220) (wa := w84) hS hw84 21 dX11_enter_220 (by decide) rfl hi85 rfl (fun w87 hw87 => ?_)
                  obtain ⟨r86, er86⟩ : ∃ r86 : Rs, r86 = uI r83 21 x57.toNatClampNeg 2 := ⟨_, rfl⟩
                  replace hv := hv r86 er86
                  rw [← er86] at hw87
                  refine e_aload_n (pc := 221) (i := 0) dX11_enter_221 rfl rfl ?_
                  refine e_iconst (pc := 222) (v := 0) dX11_enter_222 (by decide) ?_
                  refine n_putS (pc := 223) hS hw87 41 dX11_enter_223 fRX11_163 rfl rfl (fun w89 hw89 => ?_)
                  obtain ⟨r88, er88⟩ : ∃ r88 : Rs, r88 = uS r86 41 0 := ⟨_, rfl⟩
                  replace hv := hv r88 er88
                  rw [← er88] at hw89
                  refine e_iload (pc := 226) (i := 10) dX11_enter_226 rfl ?_
                  exact e_ireturn (pc := 228) dX11_enter_228 rfl ⟨r88, hw89, _, rfl, hv⟩
              · replace hv := hv.2 h22
                refine e_aload_n (pc := 113) (i := 0) dX11_enter_113 rfl rfl ?_
                refine e_bipush (pc := 114) (v := 10) dX11_enter_114 (by decide) ?_
                refine e_callV (pc := 116) (ci := 11) (st := []) (rc' := 0) (rs' := 0) (B' := bX11_refuse) [vI 10] dX11_enter_116 vRX11_231 kX11_refuse (by decide) rfl (hW.K hS) rfl rfl (Nat.le_of_ble_eq_true rfl) ⟨Nat.le_of_ble_eq_true rfl, Nat.le_of_ble_eq_true rfl⟩ rfl rfl (hv w hW) (fun zx90 w91 hq => ?_)
                obtain ⟨r92, hw91, x90, ex90, hv⟩ := hq
                subst ex90
                show EJ X mX11_enter _ 0 0 _ _ (vI x90 :: []) w91
                exact e_ireturn (pc := 119) dX11_enter_119 rfl ⟨r92, hw91, _, rfl, hv⟩
            · replace hv := hv.2 h21
              refine e_aload_n (pc := 97) (i := 0) dX11_enter_97 rfl rfl ?_
              refine e_iconst (pc := 98) (v := 5) dX11_enter_98 (by decide) ?_
              refine e_callV (pc := 99) (ci := 11) (st := []) (rc' := 0) (rs' := 0) (B' := bX11_refuse) [vI 5] dX11_enter_99 vRX11_231 kX11_refuse (by decide) rfl (hW.K hS) rfl rfl (Nat.le_of_ble_eq_true rfl) ⟨Nat.le_of_ble_eq_true rfl, Nat.le_of_ble_eq_true rfl⟩ rfl rfl (hv w hW) (fun zx93 w94 hq => ?_)
              obtain ⟨r95, hw94, x93, ex93, hv⟩ := hq
              subst ex93
              show EJ X mX11_enter _ 0 0 _ _ (vI x93 :: []) w94
              exact e_ireturn (pc := 102) dX11_enter_102 rfl ⟨r95, hw94, _, rfl, hv⟩
set_option maxRecDepth 100000 in
set_option maxHeartbeats 4000000 in
theorem pX11_enter (X : Cx) (w0 : Wd) (m : Nat) (hS : Sh w0 m) (A : Int32 → Rs → Prop) (a1 : Int32) (a2 : Int32) (a3 : Int64) (a5 : Int32) (a6 : Int64) (r : Rs)
    (hv : ((a1 < 0) → CM X w0 m bX11_refuse mX11_refuse [vI 1] r (pI fun x2 r4 => A x2 r4)) ∧ ((¬ a1 < 0) → ((a1 < (sS r 2)) → CM X w0 m bX11_wrongBits mX11_wrongBits [vI a1, vJ a6] r (pI fun x6 r8 => ((x6 ≤ 0) → ((a2 = 4) → iX11_enter_58 X w0 m A a1 a2 a3 a5 a6 36500 r8) ∧ ((¬ a2 = 4) → ((¬ a2 = 6) → iX11_enter_58 X w0 m A a1 a2 a3 a5 a6 200 r8) ∧ ((a2 = 6) → iX11_enter_58 X w0 m A a1 a2 a3 a5 a6 36500 r8))) ∧ ((¬ x6 ≤ 0) → CM X w0 m bX11_refuse mX11_refuse [vI x6] r8 (pI fun x12 r14 => A x12 r14)))) ∧ ((¬ a1 < (sS r 2)) → CM X w0 m bX11_refuse mX11_refuse [vI 1] r (pI fun x15 r17 => A x15 r17)))) :
    CM X w0 m bX11_enter mX11_enter [vI a1, vI a2, vJ a3, vI a5, vJ a6] r (pI A) := by
  intro w hW
  refine Ct.of (Q := qM w0 m (pI A)) (lv := [(0, vR m), (1, vI a1), (2, vI a2), (3, vJ a3), (5, vI a5), (6, vJ a6)]) rfl (Nat.le_of_ble_eq_true rfl) rfl ?_
  refine e_iload_n (pc := 0) (i := 1) dX11_enter_0 rfl rfl ?_
  refine e_if_lt (pc := 1) (tgt := 12) dX11_enter_1 (by decide) (fun h1 => ?_) (fun h1 => ?_)
  · replace hv := hv.1 h1
    refine e_aload_n (pc := 12) (i := 0) dX11_enter_12 rfl rfl ?_
    refine e_iconst (pc := 13) (v := 1) dX11_enter_13 (by decide) ?_
    refine e_callV (pc := 14) (ci := 11) (st := []) (rc' := 0) (rs' := 0) (B' := bX11_refuse) [vI 1] dX11_enter_14 vRX11_231 kX11_refuse (by decide) rfl (hW.K hS) rfl rfl (Nat.le_of_ble_eq_true rfl) ⟨Nat.le_of_ble_eq_true rfl, Nat.le_of_ble_eq_true rfl⟩ rfl rfl (hv w hW) (fun zx2 w3 hq => ?_)
    obtain ⟨r4, hw3, x2, ex2, hv⟩ := hq
    subst ex2
    show EJ X mX11_enter _ 0 0 _ _ (vI x2 :: []) w3
    exact e_ireturn (pc := 17) dX11_enter_17 rfl ⟨r4, hw3, _, rfl, hv⟩
  · replace hv := hv.2 h1
    refine e_iload_n (pc := 4) (i := 1) dX11_enter_4 rfl rfl ?_
    refine e_aload_n (pc := 5) (i := 0) dX11_enter_5 rfl rfl ?_
    refine n_getS (pc := 6) hS hW 2 dX11_enter_6 fRX11_172 rfl ?_
    refine e_icmp_lt (pc := 9) (tgt := 18) dX11_enter_9 (by decide) (fun h5 => ?_) (fun h5 => ?_)
    · replace hv := hv.1 h5
      refine e_aload_n (pc := 18) (i := 0) dX11_enter_18 rfl rfl ?_
      refine e_iload_n (pc := 19) (i := 1) dX11_enter_19 rfl rfl ?_
      refine e_lload (pc := 20) (i := 6) dX11_enter_20 rfl ?_
      refine e_callV (pc := 22) (ci := 11) (st := []) (rc' := 0) (rs' := 0) (B' := bX11_wrongBits) [vI a1, vJ a6] dX11_enter_22 vRX11_242 kX11_wrongBits (by decide) rfl (hW.K hS) rfl rfl (Nat.le_of_ble_eq_true rfl) ⟨Nat.le_of_ble_eq_true rfl, Nat.le_of_ble_eq_true rfl⟩ rfl rfl (hv w hW) (fun zx6 w7 hq => ?_)
      obtain ⟨r8, hw7, x6, ex6, hv⟩ := hq
      subst ex6
      show EJ X mX11_enter _ 0 0 _ _ (vI x6 :: []) w7
      refine e_istore (pc := 25) (i := 8) (lv' := [(0, vR m), (1, vI a1), (2, vI a2), (3, vJ a3), (5, vI a5), (6, vJ a6), (8, vI x6)]) dX11_enter_25 (by decide) rfl ?_
      refine e_iload (pc := 27) (i := 8) dX11_enter_27 rfl ?_
      refine e_if_le (pc := 29) (tgt := 39) dX11_enter_29 (by decide) (fun h9 => ?_) (fun h9 => ?_)
      · replace hv := hv.1 h9
        refine e_iload_n (pc := 39) (i := 2) dX11_enter_39 rfl rfl ?_
        refine e_iconst (pc := 40) (v := 4) dX11_enter_40 (by decide) ?_
        refine e_icmp_eq (pc := 41) (tgt := 50) dX11_enter_41 (by decide) (fun h10 => ?_) (fun h10 => ?_)
        · replace hv := hv.1 h10
          refine e_ldc (pc := 50) (v := 36500) dX11_enter_50 (tb_a5 163 (by decide +kernel) rfl) ?_
          refine e_goto (pc := 52) (tgt := 58) dX11_enter_52 (by decide) ?_
          exact EJ.drop [0, 1, 2, 3, 5, 6] rfl (hv w7 hw7)
        · replace hv := hv.2 h10
          refine e_iload_n (pc := 44) (i := 2) dX11_enter_44 rfl rfl ?_
          refine e_bipush (pc := 45) (v := 6) dX11_enter_45 (by decide) ?_
          refine e_icmp_ne (pc := 47) (tgt := 55) dX11_enter_47 (by decide) (fun h11 => ?_) (fun h11 => ?_)
          · replace hv := hv.1 h11
            refine e_sipush (pc := 55) (v := 200) dX11_enter_55 (by decide) ?_
            exact EJ.drop [0, 1, 2, 3, 5, 6] rfl (hv w7 hw7)
          · replace hv := hv.2 h11
            refine e_ldc (pc := 50) (v := 36500) dX11_enter_50 (tb_a5 163 (by decide +kernel) rfl) ?_
            refine e_goto (pc := 52) (tgt := 58) dX11_enter_52 (by decide) ?_
            exact EJ.drop [0, 1, 2, 3, 5, 6] rfl (hv w7 hw7)
      · replace hv := hv.2 h9
        refine e_aload_n (pc := 32) (i := 0) dX11_enter_32 rfl rfl ?_
        refine e_iload (pc := 33) (i := 8) dX11_enter_33 rfl ?_
        refine e_callV (pc := 35) (ci := 11) (st := []) (rc' := 0) (rs' := 0) (B' := bX11_refuse) [vI x6] dX11_enter_35 vRX11_231 kX11_refuse (by decide) rfl (hw7.K hS) rfl rfl (Nat.le_of_ble_eq_true rfl) ⟨Nat.le_of_ble_eq_true rfl, Nat.le_of_ble_eq_true rfl⟩ rfl rfl (hv w7 hw7) (fun zx12 w13 hq => ?_)
        obtain ⟨r14, hw13, x12, ex12, hv⟩ := hq
        subst ex12
        show EJ X mX11_enter _ 0 0 _ _ (vI x12 :: []) w13
        exact e_ireturn (pc := 38) dX11_enter_38 rfl ⟨r14, hw13, _, rfl, hv⟩
    · replace hv := hv.2 h5
      refine e_aload_n (pc := 12) (i := 0) dX11_enter_12 rfl rfl ?_
      refine e_iconst (pc := 13) (v := 1) dX11_enter_13 (by decide) ?_
      refine e_callV (pc := 14) (ci := 11) (st := []) (rc' := 0) (rs' := 0) (B' := bX11_refuse) [vI 1] dX11_enter_14 vRX11_231 kX11_refuse (by decide) rfl (hW.K hS) rfl rfl (Nat.le_of_ble_eq_true rfl) ⟨Nat.le_of_ble_eq_true rfl, Nat.le_of_ble_eq_true rfl⟩ rfl rfl (hv w hW) (fun zx15 w16 hq => ?_)
      obtain ⟨r17, hw16, x15, ex15, hv⟩ := hq
      subst ex15
      show EJ X mX11_enter _ 0 0 _ _ (vI x15 :: []) w16
      exact e_ireturn (pc := 17) dX11_enter_17 rfl ⟨r17, hw16, _, rfl, hv⟩
