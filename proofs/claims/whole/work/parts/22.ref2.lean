set_option maxRecDepth 100000 in
set_option maxHeartbeats 4000000 in
theorem pX11_claim (X : Cx) (w0 : Wd) (m : Nat) (hS : Sh w0 m) (A : Int32 → Rs → Prop) (a1 : Int32) (a2 : Int32) (a3 : Int32) (r : Rs)
    (hv : CM X w0 m bX11_isEntry mX11_isEntry [vI a1] r (pI fun x1 r3 => ((¬ x1 = 0) → vp_in a1 301 ∧ ((¬ (rI r3 3 a1.toNatClampNeg) = 5) → CM X w0 m bX11_no mX11_no [vI 4] r3 (pI fun x7 r9 => (x7 = 0 ∨ x7 = 1) ∧ A x7 r9)) ∧ (((rI r3 3 a1.toNatClampNeg) = 5) → vp_in a1 301 ∧ (((rI r3 6 a1.toNatClampNeg) = 0) → ((a2 < 0) → CM X w0 m bX11_no mX11_no [vI 5] r3 (pI fun x13 r15 => (x13 = 0 ∨ x13 = 1) ∧ A x13 r15)) ∧ ((¬ a2 < 0) → ((36500 < a2) → CM X w0 m bX11_no mX11_no [vI 5] r3 (pI fun x17 r19 => (x17 = 0 ∨ x17 = 1) ∧ A x17 r19)) ∧ ((¬ 36500 < a2) → ((a3 < 1) → CM X w0 m bX11_no mX11_no [vI 5] r3 (pI fun x21 r23 => (x21 = 0 ∨ x21 = 1) ∧ A x21 r23)) ∧ ((¬ a3 < 1) → ((a3 ≤ 30) → vp_in a1 301 ∧ (((rI r3 23 a1.toNatClampNeg) = (-1)) → vp_in a1 301 ∧ ∀ r28 : Rs, r28 = uI r3 20 a1.toNatClampNeg a2 → vp_in a1 301 ∧ ∀ r31 : Rs, r31 = uI r28 21 a1.toNatClampNeg a3 → CM X w0 m bX11_dateNow mX11_dateNow [] r31 (pI fun x33 r35 => vp_in a1 301 ∧ ∀ r37 : Rs, r37 = uI r35 22 a1.toNatClampNeg x33 → vp_in a1 301 ∧ ∀ r40 : Rs, r40 = uI r37 23 a1.toNatClampNeg (sS r37 39) → ∀ r42 : Rs, r42 = uS r40 41 0 → A 1 r42)) ∧ ((¬ (rI r3 23 a1.toNatClampNeg) = (-1)) → CM X w0 m bX11_no mX11_no [vI 8] r3 (pI fun x44 r46 => (x44 = 0 ∨ x44 = 1) ∧ A x44 r46))) ∧ ((¬ a3 ≤ 30) → CM X w0 m bX11_no mX11_no [vI 5] r3 (pI fun x47 r49 => (x47 = 0 ∨ x47 = 1) ∧ A x47 r49)))))) ∧ ((¬ (rI r3 6 a1.toNatClampNeg) = 0) → CM X w0 m bX11_no mX11_no [vI 4] r3 (pI fun x50 r52 => (x50 = 0 ∨ x50 = 1) ∧ A x50 r52)))) ∧ ((x1 = 0) → CM X w0 m bX11_no mX11_no [vI 1] r3 (pI fun x53 r55 => (x53 = 0 ∨ x53 = 1) ∧ A x53 r55)))) :
    CM X w0 m bX11_claim mX11_claim [vI a1, vI a2, vI a3] r (pI A) := by
  intro w hW
  refine Ct.of (Q := qM w0 m (pI A)) (lv := [(0, vR m), (1, vI a1), (2, vI a2), (3, vI a3)]) rfl (Nat.le_of_ble_eq_true rfl) rfl ?_
  refine e_aload_n (pc := 0) (i := 0) dX11_claim_0 rfl rfl ?_
  refine e_iload_n (pc := 1) (i := 1) dX11_claim_1 rfl rfl ?_
  refine e_callV (pc := 2) (ci := 11) (st := []) (rc' := 0) (rs' := 0) (B' := bX11_isEntry) [vI a1] dX11_claim_2 vRX11_224 kX11_isEntry (by decide) rfl (hW.K hS) rfl rfl (Nat.le_of_ble_eq_true rfl) ⟨Nat.le_of_ble_eq_true rfl, Nat.le_of_ble_eq_true rfl⟩ rfl rfl (hv w hW) (fun zx1 w2 hq => ?_)
  obtain ⟨r3, hw2, x1, ex1, hv⟩ := hq
  subst ex1
  show EJ X mX11_claim _ 0 0 _ _ (vI x1 :: []) w2
  refine e_if_ne (pc := 5) (tgt := 14) dX11_claim_5 (by decide) (fun h4 => ?_) (fun h4 => ?_)
  · replace hv := hv.1 h4
    refine e_aload_n (pc := 14) (i := 0) dX11_claim_14 rfl rfl ?_
    refine n_get (pc := 15) hS hw2 3 dX11_claim_15 fRX11_17 rfl ?_
    refine e_iload_n (pc := 18) (i := 1) dX11_claim_18 rfl rfl ?_
    have hi5 : vp_in a1 301 := hv.1
    replace hv := hv.2
    refine n_iald (pc := 19) (wa := w2) hS hw2 3 dX11_claim_19 (by decide) rfl hi5 rfl ?_
    refine e_iconst (pc := 20) (v := 5) dX11_claim_20 (by decide) ?_
    refine e_icmp_ne (pc := 21) (tgt := 33) dX11_claim_21 (by decide) (fun h6 => ?_) (fun h6 => ?_)
    · replace hv := hv.1 h6
      refine e_aload_n (pc := 33) (i := 0) dX11_claim_33 rfl rfl ?_
      refine e_iconst (pc := 34) (v := 4) dX11_claim_34 (by decide) ?_
      refine e_callV (pc := 35) (ci := 11) (st := []) (rc' := 0) (rs' := 0) (B' := bX11_no) [vI 4] dX11_claim_35 vRX11_238 kX11_no (by decide) rfl (hw2.K hS) rfl rfl (Nat.le_of_ble_eq_true rfl) ⟨Nat.le_of_ble_eq_true rfl, Nat.le_of_ble_eq_true rfl⟩ rfl rfl (hv w2 hw2) (fun zx7 w8 hq => ?_)
      obtain ⟨r9, hw8, x7, ex7, hv⟩ := hq
      subst ex7
      show EJ X mX11_claim _ 0 0 _ _ (vI x7 :: []) w8
      exact e_zreturn (pc := 38) dX11_claim_38 rfl hv.1 ⟨r9, hw8, _, rfl, hv.2⟩
    · replace hv := hv.2 h6
      refine e_aload_n (pc := 24) (i := 0) dX11_claim_24 rfl rfl ?_
      refine n_get (pc := 25) hS hw2 6 dX11_claim_25 fRX11_26 rfl ?_
      refine e_iload_n (pc := 28) (i := 1) dX11_claim_28 rfl rfl ?_
      have hi10 : vp_in a1 301 := hv.1
      replace hv := hv.2
      refine n_iald (pc := 29) (wa := w2) hS hw2 6 dX11_claim_29 (by decide) rfl hi10 rfl ?_
      refine e_if_eq (pc := 30) (tgt := 39) dX11_claim_30 (by decide) (fun h11 => ?_) (fun h11 => ?_)
      · replace hv := hv.1 h11
        refine e_iload_n (pc := 39) (i := 2) dX11_claim_39 rfl rfl ?_
        refine e_if_lt (pc := 40) (tgt := 60) dX11_claim_40 (by decide) (fun h12 => ?_) (fun h12 => ?_)
        · replace hv := hv.1 h12
          refine e_aload_n (pc := 60) (i := 0) dX11_claim_60 rfl rfl ?_
          refine e_iconst (pc := 61) (v := 5) dX11_claim_61 (by decide) ?_
          refine e_callV (pc := 62) (ci := 11) (st := []) (rc' := 0) (rs' := 0) (B' := bX11_no) [vI 5] dX11_claim_62 vRX11_238 kX11_no (by decide) rfl (hw2.K hS) rfl rfl (Nat.le_of_ble_eq_true rfl) ⟨Nat.le_of_ble_eq_true rfl, Nat.le_of_ble_eq_true rfl⟩ rfl rfl (hv w2 hw2) (fun zx13 w14 hq => ?_)
          obtain ⟨r15, hw14, x13, ex13, hv⟩ := hq
          subst ex13
          show EJ X mX11_claim _ 0 0 _ _ (vI x13 :: []) w14
          exact e_zreturn (pc := 65) dX11_claim_65 rfl hv.1 ⟨r15, hw14, _, rfl, hv.2⟩
        · replace hv := hv.2 h12
          refine e_iload_n (pc := 43) (i := 2) dX11_claim_43 rfl rfl ?_
          refine e_ldc (pc := 44) (v := 36500) dX11_claim_44 (tb_a5 163 (by decide +kernel) rfl) ?_
          refine e_icmp_gt (pc := 46) (tgt := 60) dX11_claim_46 (by decide) (fun h16 => ?_) (fun h16 => ?_)
          · replace hv := hv.1 h16
            refine e_aload_n (pc := 60) (i := 0) dX11_claim_60 rfl rfl ?_
            refine e_iconst (pc := 61) (v := 5) dX11_claim_61 (by decide) ?_
            refine e_callV (pc := 62) (ci := 11) (st := []) (rc' := 0) (rs' := 0) (B' := bX11_no) [vI 5] dX11_claim_62 vRX11_238 kX11_no (by decide) rfl (hw2.K hS) rfl rfl (Nat.le_of_ble_eq_true rfl) ⟨Nat.le_of_ble_eq_true rfl, Nat.le_of_ble_eq_true rfl⟩ rfl rfl (hv w2 hw2) (fun zx17 w18 hq => ?_)
            obtain ⟨r19, hw18, x17, ex17, hv⟩ := hq
            subst ex17
            show EJ X mX11_claim _ 0 0 _ _ (vI x17 :: []) w18
            exact e_zreturn (pc := 65) dX11_claim_65 rfl hv.1 ⟨r19, hw18, _, rfl, hv.2⟩
          · replace hv := hv.2 h16
            refine e_iload_n (pc := 49) (i := 3) dX11_claim_49 rfl rfl ?_
            refine e_iconst (pc := 50) (v := 1) dX11_claim_50 (by decide) ?_
            refine e_icmp_lt (pc := 51) (tgt := 60) dX11_claim_51 (by decide) (fun h20 => ?_) (fun h20 => ?_)
            · replace hv := hv.1 h20
              refine e_aload_n (pc := 60) (i := 0) dX11_claim_60 rfl rfl ?_
              refine e_iconst (pc := 61) (v := 5) dX11_claim_61 (by decide) ?_
              refine e_callV (pc := 62) (ci := 11) (st := []) (rc' := 0) (rs' := 0) (B' := bX11_no) [vI 5] dX11_claim_62 vRX11_238 kX11_no (by decide) rfl (hw2.K hS) rfl rfl (Nat.le_of_ble_eq_true rfl) ⟨Nat.le_of_ble_eq_true rfl, Nat.le_of_ble_eq_true rfl⟩ rfl rfl (hv w2 hw2) (fun zx21 w22 hq => ?_)
              obtain ⟨r23, hw22, x21, ex21, hv⟩ := hq
              subst ex21
              show EJ X mX11_claim _ 0 0 _ _ (vI x21 :: []) w22
              exact e_zreturn (pc := 65) dX11_claim_65 rfl hv.1 ⟨r23, hw22, _, rfl, hv.2⟩
            · replace hv := hv.2 h20
              refine e_iload_n (pc := 54) (i := 3) dX11_claim_54 rfl rfl ?_
              refine e_bipush (pc := 55) (v := 30) dX11_claim_55 (by decide) ?_
              refine e_icmp_le (pc := 57) (tgt := 66) dX11_claim_57 (by decide) (fun h24 => ?_) (fun h24 => ?_)
              · replace hv := hv.1 h24
                refine e_aload_n (pc := 66) (i := 0) dX11_claim_66 rfl rfl ?_
                refine n_get (pc := 67) hS hw2 23 dX11_claim_67 fRX11_78 rfl ?_
                refine e_iload_n (pc := 70) (i := 1) dX11_claim_70 rfl rfl ?_
                have hi25 : vp_in a1 301 := hv.1
                replace hv := hv.2
                refine n_iald (pc := 71) (wa := w2) hS hw2 23 dX11_claim_71 (by decide) rfl hi25 rfl ?_
                refine e_iconst (pc := 72) (v := (-1)) dX11_claim_72 (by decide) ?_
                refine e_icmp_eq (pc := 73) (tgt := 83) dX11_claim_73 (by decide) (fun h26 => ?_) (fun h26 => ?_)
                · replace hv := hv.1 h26
                  refine e_aload_n (pc := 83) (i := 0) dX11_claim_83 rfl rfl ?_
                  refine n_get (pc := 84) hS hw2 20 dX11_claim_84 fRX11_69 rfl ?_
                  refine e_iload_n (pc := 87) (i := 1) dX11_claim_87 rfl rfl ?_
                  refine e_iload_n (pc := 88) (i := 2) dX11_claim_88 rfl rfl ?_
                  have hi27 : vp_in a1 301 := hv.1
                  replace hv := hv.2
                  refine n_iast (pc := 89) (wa := w2) hS hw2 20 dX11_claim_89 (by decide) rfl hi27 rfl (fun w29 hw29 => ?_)
                  obtain ⟨r28, er28⟩ : ∃ r28 : Rs, r28 = uI r3 20 a1.toNatClampNeg a2 := ⟨_, rfl⟩
                  replace hv := hv r28 er28
                  rw [← er28] at hw29
                  refine e_aload_n (pc := 90) (i := 0) dX11_claim_90 rfl rfl ?_
                  refine n_get (pc := 91) hS hw29 21 dX11_claim_91 fRX11_72 rfl ?_
                  refine e_iload_n (pc := 94) (i := 1) dX11_claim_94 rfl rfl ?_
                  refine e_iload_n (pc := 95) (i := 3) dX11_claim_95 rfl rfl ?_
                  have hi30 : vp_in a1 301 := hv.1
                  replace hv := hv.2
                  refine n_iast (pc := 96) (wa := w29) hS hw29 21 dX11_claim_96 (by decide) rfl hi30 rfl (fun w32 hw32 => ?_)
                  obtain ⟨r31, er31⟩ : ∃ r31 : Rs, r31 = uI r28 21 a1.toNatClampNeg a3 := ⟨_, rfl⟩
                  replace hv := hv r31 er31
                  rw [← er31] at hw32
                  refine e_aload_n (pc := 97) (i := 0) dX11_claim_97 rfl rfl ?_
                  refine n_get (pc := 98) hS hw32 22 dX11_claim_98 fRX11_75 rfl ?_
                  refine e_iload_n (pc := 101) (i := 1) dX11_claim_101 rfl rfl ?_
                  refine e_aload_n (pc := 102) (i := 0) dX11_claim_102 rfl rfl ?_
                  refine e_callV (pc := 103) (ci := 11) (st := [vI a1, vR (wR w32 11 22 m)]) (rc' := 0) (rs' := 0) (B' := bX11_dateNow) [] dX11_claim_103 vRX11_252 kX11_dateNow (by decide) rfl (hw32.K hS) rfl rfl (Nat.le_of_ble_eq_true rfl) ⟨Nat.le_of_ble_eq_true rfl, Nat.le_of_ble_eq_true rfl⟩ rfl rfl (hv w32 hw32) (fun zx33 w34 hq => ?_)
                  obtain ⟨r35, hw34, x33, ex33, hv⟩ := hq
                  subst ex33
                  show EJ X mX11_claim _ 0 0 _ _ (vI x33 :: [vI a1, vR (wR w32 11 22 m)]) w34
                  have hi36 : vp_in a1 301 := hv.1
                  replace hv := hv.2
                  refine n_iast (pc := 106) (wa := w32) hS hw34 22 dX11_claim_106 (by decide) rfl hi36 (Wm.same hw32 hw34) (fun w38 hw38 => ?_)
                  obtain ⟨r37, er37⟩ : ∃ r37 : Rs, r37 = uI r35 22 a1.toNatClampNeg x33 := ⟨_, rfl⟩
                  replace hv := hv r37 er37
                  rw [← er37] at hw38
                  refine e_aload_n (pc := 107) (i := 0) dX11_claim_107 rfl rfl ?_
                  refine n_get (pc := 108) hS hw38 23 dX11_claim_108 fRX11_78 rfl ?_
                  refine e_iload_n (pc := 111) (i := 1) dX11_claim_111 rfl rfl ?_
                  refine e_aload_n (pc := 112) (i := 0) dX11_claim_112 rfl rfl ?_
                  refine n_getS (pc := 113) hS hw38 39 dX11_claim_113 fRX11_166 rfl ?_
                  have hi39 : vp_in a1 301 := hv.1
                  replace hv := hv.2
                  refine n_iast (pc := 116) (wa := w38) hS hw38 23 dX11_claim_116 (by decide) rfl hi39 rfl (fun w41 hw41 => ?_)
                  obtain ⟨r40, er40⟩ : ∃ r40 : Rs, r40 = uI r37 23 a1.toNatClampNeg (sS r37 39) := ⟨_, rfl⟩
                  replace hv := hv r40 er40
                  rw [← er40] at hw41
                  refine e_aload_n (pc := 117) (i := 0) dX11_claim_117 rfl rfl ?_
                  refine e_iconst (pc := 118) (v := 0) dX11_claim_118 (by decide) ?_
                  refine n_putS (pc := 119) hS hw41 41 dX11_claim_119 fRX11_163 rfl rfl (fun w43 hw43 => ?_)
                  obtain ⟨r42, er42⟩ : ∃ r42 : Rs, r42 = uS r40 41 0 := ⟨_, rfl⟩
                  replace hv := hv r42 er42
                  rw [← er42] at hw43
                  refine e_iconst (pc := 122) (v := 1) dX11_claim_122 (by decide) ?_
                  exact e_zreturn (pc := 123) dX11_claim_123 rfl (Or.inr rfl) ⟨r42, hw43, _, rfl, hv⟩
                · replace hv := hv.2 h26
                  refine e_aload_n (pc := 76) (i := 0) dX11_claim_76 rfl rfl ?_
                  refine e_bipush (pc := 77) (v := 8) dX11_claim_77 (by decide) ?_
                  refine e_callV (pc := 79) (ci := 11) (st := []) (rc' := 0) (rs' := 0) (B' := bX11_no) [vI 8] dX11_claim_79 vRX11_238 kX11_no (by decide) rfl (hw2.K hS) rfl rfl (Nat.le_of_ble_eq_true rfl) ⟨Nat.le_of_ble_eq_true rfl, Nat.le_of_ble_eq_true rfl⟩ rfl rfl (hv w2 hw2) (fun zx44 w45 hq => ?_)
                  obtain ⟨r46, hw45, x44, ex44, hv⟩ := hq
                  subst ex44
                  show EJ X mX11_claim _ 0 0 _ _ (vI x44 :: []) w45
                  exact e_zreturn (pc := 82) dX11_claim_82 rfl hv.1 ⟨r46, hw45, _, rfl, hv.2⟩
              · replace hv := hv.2 h24
                refine e_aload_n (pc := 60) (i := 0) dX11_claim_60 rfl rfl ?_
                refine e_iconst (pc := 61) (v := 5) dX11_claim_61 (by decide) ?_
                refine e_callV (pc := 62) (ci := 11) (st := []) (rc' := 0) (rs' := 0) (B' := bX11_no) [vI 5] dX11_claim_62 vRX11_238 kX11_no (by decide) rfl (hw2.K hS) rfl rfl (Nat.le_of_ble_eq_true rfl) ⟨Nat.le_of_ble_eq_true rfl, Nat.le_of_ble_eq_true rfl⟩ rfl rfl (hv w2 hw2) (fun zx47 w48 hq => ?_)
                obtain ⟨r49, hw48, x47, ex47, hv⟩ := hq
                subst ex47
                show EJ X mX11_claim _ 0 0 _ _ (vI x47 :: []) w48
                exact e_zreturn (pc := 65) dX11_claim_65 rfl hv.1 ⟨r49, hw48, _, rfl, hv.2⟩
      · replace hv := hv.2 h11
        refine e_aload_n (pc := 33) (i := 0) dX11_claim_33 rfl rfl ?_
        refine e_iconst (pc := 34) (v := 4) dX11_claim_34 (by decide) ?_
        refine e_callV (pc := 35) (ci := 11) (st := []) (rc' := 0) (rs' := 0) (B' := bX11_no) [vI 4] dX11_claim_35 vRX11_238 kX11_no (by decide) rfl (hw2.K hS) rfl rfl (Nat.le_of_ble_eq_true rfl) ⟨Nat.le_of_ble_eq_true rfl, Nat.le_of_ble_eq_true rfl⟩ rfl rfl (hv w2 hw2) (fun zx50 w51 hq => ?_)
        obtain ⟨r52, hw51, x50, ex50, hv⟩ := hq
        subst ex50
        show EJ X mX11_claim _ 0 0 _ _ (vI x50 :: []) w51
        exact e_zreturn (pc := 38) dX11_claim_38 rfl hv.1 ⟨r52, hw51, _, rfl, hv.2⟩
  · replace hv := hv.2 h4
    refine e_aload_n (pc := 8) (i := 0) dX11_claim_8 rfl rfl ?_
    refine e_iconst (pc := 9) (v := 1) dX11_claim_9 (by decide) ?_
    refine e_callV (pc := 10) (ci := 11) (st := []) (rc' := 0) (rs' := 0) (B' := bX11_no) [vI 1] dX11_claim_10 vRX11_238 kX11_no (by decide) rfl (hw2.K hS) rfl rfl (Nat.le_of_ble_eq_true rfl) ⟨Nat.le_of_ble_eq_true rfl, Nat.le_of_ble_eq_true rfl⟩ rfl rfl (hv w2 hw2) (fun zx53 w54 hq => ?_)
    obtain ⟨r55, hw54, x53, ex53, hv⟩ := hq
    subst ex53
    show EJ X mX11_claim _ 0 0 _ _ (vI x53 :: []) w54
    exact e_zreturn (pc := 13) dX11_claim_13 rfl hv.1 ⟨r55, hw54, _, rfl, hv.2⟩
set_option maxRecDepth 100000 in
set_option maxHeartbeats 4000000 in
theorem pX11_livesNow (X : Cx) (w0 : Wd) (m : Nat) (hS : Sh w0 m) (A : Int32 → Rs → Prop) (a1 : Int32) (r : Rs)
    (hv : CM X w0 m bX11_now mX11_now [] r (pV fun r3 => CM X w0 m bX11_lives mX11_lives [vI a1] r3 (pI fun x4 r6 => (x4 = 0 ∨ x4 = 1) ∧ A x4 r6))) :
    CM X w0 m bX11_livesNow mX11_livesNow [vI a1] r (pI A) := by
  intro w hW
  refine Ct.of (Q := qM w0 m (pI A)) (lv := [(0, vR m), (1, vI a1)]) rfl (Nat.le_of_ble_eq_true rfl) rfl ?_
  refine e_aload_n (pc := 0) (i := 0) dX11_livesNow_0 rfl rfl ?_
  refine e_callV (pc := 1) (ci := 11) (st := []) (rc' := 0) (rs' := 0) (B' := bX11_now) [] dX11_livesNow_1 vRX11_257 kX11_now (by decide) rfl (hW.K hS) rfl rfl (Nat.le_of_ble_eq_true rfl) ⟨Nat.le_of_ble_eq_true rfl, Nat.le_of_ble_eq_true rfl⟩ rfl rfl (hv w hW) (fun zx1 w2 hq => ?_)
  obtain ⟨r3, hw2, ex1, hv⟩ := hq
  subst ex1
  show EJ X mX11_livesNow _ 0 0 _ _ [] w2
  refine e_aload_n (pc := 4) (i := 0) dX11_livesNow_4 rfl rfl ?_
  refine e_iload_n (pc := 5) (i := 1) dX11_livesNow_5 rfl rfl ?_
  refine e_callV (pc := 6) (ci := 11) (st := []) (rc' := 0) (rs' := 0) (B' := bX11_lives) [vI a1] dX11_livesNow_6 vRX11_195 kX11_lives (by decide) rfl (hw2.K hS) rfl rfl (Nat.le_of_ble_eq_true rfl) ⟨Nat.le_of_ble_eq_true rfl, Nat.le_of_ble_eq_true rfl⟩ rfl rfl (hv w2 hw2) (fun zx4 w5 hq => ?_)
  obtain ⟨r6, hw5, x4, ex4, hv⟩ := hq
  subst ex4
  show EJ X mX11_livesNow _ 0 0 _ _ (vI x4 :: []) w5
  exact e_zreturn (pc := 9) dX11_livesNow_9 rfl hv.1 ⟨r6, hw5, _, rfl, hv.2⟩
set_option maxRecDepth 100000 in
set_option maxHeartbeats 4000000 in
theorem pX11_owe (X : Cx) (w0 : Wd) (m : Nat) (hS : Sh w0 m) (A : Int32 → Rs → Prop) (a1 : Int32) (a2 : Int64) (r : Rs)
    (hv : CM X w0 m bX11_isEntry mX11_isEntry [vI a1] r (pI fun x1 r3 => ((¬ x1 = 0) → vp_in a1 301 ∧ vp_in a1 301 ∧ (((rI r3 3 a1.toNatClampNeg) = 3) → (((lg_cmp a2 0) < 0) → CM X w0 m bX11_no mX11_no [vI 5] r3 (pI fun x9 r11 => (x9 = 0 ∨ x9 = 1) ∧ A x9 r11)) ∧ ((¬ (lg_cmp a2 0) < 0) → vp_in (rI r3 5 a1.toNatClampNeg) 301 ∧ (((lg_cmp a2 (rJ r3 12 (rI r3 5 a1.toNatClampNeg).toNatClampNeg)) ≤ 0) → CM X w0 m bX11_livesNow mX11_livesNow [vI a1] r3 (pI fun x14 r16 => ((¬ x14 = 0) → vp_in a1 301 ∧ ((¬ (rI r16 9 a1.toNatClampNeg) = 0) → CM X w0 m bX11_no mX11_no [vI 8] r16 (pI fun x20 r22 => (x20 = 0 ∨ x20 = 1) ∧ A x20 r22)) ∧ (((rI r16 9 a1.toNatClampNeg) = 0) → CM X w0 m bX11_sumBelow mX11_sumBelow [vI (rI r3 5 a1.toNatClampNeg)] r16 (pJ fun x23 r25 => vp_in a1 301 ∧ vp_in (rI r3 5 a1.toNatClampNeg) 301 ∧ (((lg_cmp ((x23 - (rJ r25 8 a1.toNatClampNeg)) + a2) (rJ r25 12 (rI r3 5 a1.toNatClampNeg).toNatClampNeg)) ≤ 0) → vp_in a1 301 ∧ ∀ r30 : Rs, r30 = uJ r25 8 a1.toNatClampNeg a2 → ∀ r32 : Rs, r32 = uS r30 41 0 → A 1 r32) ∧ ((¬ (lg_cmp ((x23 - (rJ r25 8 a1.toNatClampNeg)) + a2) (rJ r25 12 (rI r3 5 a1.toNatClampNeg).toNatClampNeg)) ≤ 0) → CM X w0 m bX11_no mX11_no [vI 8] r25 (pI fun x34 r36 => (x34 = 0 ∨ x34 = 1) ∧ A x34 r36))))) ∧ ((x14 = 0) → CM X w0 m bX11_no mX11_no [vI 6] r16 (pI fun x37 r39 => (x37 = 0 ∨ x37 = 1) ∧ A x37 r39)))) ∧ ((¬ (lg_cmp a2 (rJ r3 12 (rI r3 5 a1.toNatClampNeg).toNatClampNeg)) ≤ 0) → CM X w0 m bX11_no mX11_no [vI 5] r3 (pI fun x40 r42 => (x40 = 0 ∨ x40 = 1) ∧ A x40 r42)))) ∧ ((¬ (rI r3 3 a1.toNatClampNeg) = 3) → CM X w0 m bX11_no mX11_no [vI 4] r3 (pI fun x43 r45 => (x43 = 0 ∨ x43 = 1) ∧ A x43 r45))) ∧ ((x1 = 0) → CM X w0 m bX11_no mX11_no [vI 1] r3 (pI fun x46 r48 => (x46 = 0 ∨ x46 = 1) ∧ A x46 r48)))) :
    CM X w0 m bX11_owe mX11_owe [vI a1, vJ a2] r (pI A) := by
  intro w hW
  refine Ct.of (Q := qM w0 m (pI A)) (lv := [(0, vR m), (1, vI a1), (2, vJ a2)]) rfl (Nat.le_of_ble_eq_true rfl) rfl ?_
  refine e_aload_n (pc := 0) (i := 0) dX11_owe_0 rfl rfl ?_
  refine e_iload_n (pc := 1) (i := 1) dX11_owe_1 rfl rfl ?_
  refine e_callV (pc := 2) (ci := 11) (st := []) (rc' := 0) (rs' := 0) (B' := bX11_isEntry) [vI a1] dX11_owe_2 vRX11_224 kX11_isEntry (by decide) rfl (hW.K hS) rfl rfl (Nat.le_of_ble_eq_true rfl) ⟨Nat.le_of_ble_eq_true rfl, Nat.le_of_ble_eq_true rfl⟩ rfl rfl (hv w hW) (fun zx1 w2 hq => ?_)
  obtain ⟨r3, hw2, x1, ex1, hv⟩ := hq
  subst ex1
  show EJ X mX11_owe _ 0 0 _ _ (vI x1 :: []) w2
  refine e_if_ne (pc := 5) (tgt := 14) dX11_owe_5 (by decide) (fun h4 => ?_) (fun h4 => ?_)
  · replace hv := hv.1 h4
    refine e_aload_n (pc := 14) (i := 0) dX11_owe_14 rfl rfl ?_
    refine n_get (pc := 15) hS hw2 5 dX11_owe_15 fRX11_23 rfl ?_
    refine e_iload_n (pc := 18) (i := 1) dX11_owe_18 rfl rfl ?_
    have hi5 : vp_in a1 301 := hv.1
    replace hv := hv.2
    refine n_iald (pc := 19) (wa := w2) hS hw2 5 dX11_owe_19 (by decide) rfl hi5 rfl ?_
    refine e_istore (pc := 20) (i := 4) (lv' := [(0, vR m), (1, vI a1), (2, vJ a2), (4, vI (rI r3 5 a1.toNatClampNeg))]) dX11_owe_20 (by decide) rfl ?_
    refine e_aload_n (pc := 22) (i := 0) dX11_owe_22 rfl rfl ?_
    refine n_get (pc := 23) hS hw2 3 dX11_owe_23 fRX11_17 rfl ?_
    refine e_iload_n (pc := 26) (i := 1) dX11_owe_26 rfl rfl ?_
    have hi6 : vp_in a1 301 := hv.1
    replace hv := hv.2
    refine n_iald (pc := 27) (wa := w2) hS hw2 3 dX11_owe_27 (by decide) rfl hi6 rfl ?_
    refine e_iconst (pc := 28) (v := 3) dX11_owe_28 (by decide) ?_
    refine e_icmp_eq (pc := 29) (tgt := 38) dX11_owe_29 (by decide) (fun h7 => ?_) (fun h7 => ?_)
    · replace hv := hv.1 h7
      refine e_lload_n (pc := 38) (i := 2) dX11_owe_38 rfl rfl ?_
      refine e_lconst (pc := 39) (v := 0) dX11_owe_39 (by decide) ?_
      refine e_lcmp (pc := 40) dX11_owe_40 ?_
      refine e_if_lt (pc := 41) (tgt := 56) dX11_owe_41 (by decide) (fun h8 => ?_) (fun h8 => ?_)
      · replace hv := hv.1 h8
        refine e_aload_n (pc := 56) (i := 0) dX11_owe_56 rfl rfl ?_
        refine e_iconst (pc := 57) (v := 5) dX11_owe_57 (by decide) ?_
        refine e_callV (pc := 58) (ci := 11) (st := []) (rc' := 0) (rs' := 0) (B' := bX11_no) [vI 5] dX11_owe_58 vRX11_238 kX11_no (by decide) rfl (hw2.K hS) rfl rfl (Nat.le_of_ble_eq_true rfl) ⟨Nat.le_of_ble_eq_true rfl, Nat.le_of_ble_eq_true rfl⟩ rfl rfl (hv w2 hw2) (fun zx9 w10 hq => ?_)
        obtain ⟨r11, hw10, x9, ex9, hv⟩ := hq
        subst ex9
        show EJ X mX11_owe _ 0 0 _ _ (vI x9 :: []) w10
        exact e_zreturn (pc := 61) dX11_owe_61 rfl hv.1 ⟨r11, hw10, _, rfl, hv.2⟩
      · replace hv := hv.2 h8
        refine e_lload_n (pc := 44) (i := 2) dX11_owe_44 rfl rfl ?_
        refine e_aload_n (pc := 45) (i := 0) dX11_owe_45 rfl rfl ?_
        refine n_get (pc := 46) hS hw2 12 dX11_owe_46 fRX11_45 rfl ?_
        refine e_iload (pc := 49) (i := 4) dX11_owe_49 rfl ?_
        have hi12 : vp_in (rI r3 5 a1.toNatClampNeg) 301 := hv.1
        replace hv := hv.2
        refine n_lald (pc := 51) (wa := w2) hS hw2 12 dX11_owe_51 (by decide) rfl hi12 rfl ?_
        refine e_lcmp (pc := 52) dX11_owe_52 ?_
        refine e_if_le (pc := 53) (tgt := 62) dX11_owe_53 (by decide) (fun h13 => ?_) (fun h13 => ?_)
        · replace hv := hv.1 h13
          refine e_aload_n (pc := 62) (i := 0) dX11_owe_62 rfl rfl ?_
          refine e_iload_n (pc := 63) (i := 1) dX11_owe_63 rfl rfl ?_
          refine e_callV (pc := 64) (ci := 11) (st := []) (rc' := 0) (rs' := 0) (B' := bX11_livesNow) [vI a1] dX11_owe_64 vRX11_260 kX11_livesNow (by decide) rfl (hw2.K hS) rfl rfl (Nat.le_of_ble_eq_true rfl) ⟨Nat.le_of_ble_eq_true rfl, Nat.le_of_ble_eq_true rfl⟩ rfl rfl (hv w2 hw2) (fun zx14 w15 hq => ?_)
          obtain ⟨r16, hw15, x14, ex14, hv⟩ := hq
          subst ex14
          show EJ X mX11_owe _ 0 0 _ _ (vI x14 :: []) w15
          refine e_if_ne (pc := 67) (tgt := 77) dX11_owe_67 (by decide) (fun h17 => ?_) (fun h17 => ?_)
          · replace hv := hv.1 h17
            refine e_aload_n (pc := 77) (i := 0) dX11_owe_77 rfl rfl ?_
            refine n_get (pc := 78) hS hw15 9 dX11_owe_78 fRX11_36 rfl ?_
            refine e_iload_n (pc := 81) (i := 1) dX11_owe_81 rfl rfl ?_
            have hi18 : vp_in a1 301 := hv.1
            replace hv := hv.2
            refine n_iald (pc := 82) (wa := w15) hS hw15 9 dX11_owe_82 (by decide) rfl hi18 rfl ?_
            refine e_if_ne (pc := 83) (tgt := 112) dX11_owe_83 (by decide) (fun h19 => ?_) (fun h19 => ?_)
            · replace hv := hv.1 h19
              refine e_aload_n (pc := 112) (i := 0) dX11_owe_112 rfl rfl ?_
              refine e_bipush (pc := 113) (v := 8) dX11_owe_113 (by decide) ?_
              refine e_callV (pc := 115) (ci := 11) (st := []) (rc' := 0) (rs' := 0) (B' := bX11_no) [vI 8] dX11_owe_115 vRX11_238 kX11_no (by decide) rfl (hw15.K hS) rfl rfl (Nat.le_of_ble_eq_true rfl) ⟨Nat.le_of_ble_eq_true rfl, Nat.le_of_ble_eq_true rfl⟩ rfl rfl (hv w15 hw15) (fun zx20 w21 hq => ?_)
              obtain ⟨r22, hw21, x20, ex20, hv⟩ := hq
              subst ex20
              show EJ X mX11_owe _ 0 0 _ _ (vI x20 :: []) w21
              exact e_zreturn (pc := 118) dX11_owe_118 rfl hv.1 ⟨r22, hw21, _, rfl, hv.2⟩
            · replace hv := hv.2 h19
              refine e_aload_n (pc := 86) (i := 0) dX11_owe_86 rfl rfl ?_
              refine e_iload (pc := 87) (i := 4) dX11_owe_87 rfl ?_
              refine e_callV (pc := 89) (ci := 11) (st := []) (rc' := 0) (rs' := 0) (B' := bX11_sumBelow) [vI (rI r3 5 a1.toNatClampNeg)] dX11_owe_89 vRX11_263 kX11_sumBelow (by decide) rfl (hw15.K hS) rfl rfl (Nat.le_of_ble_eq_true rfl) ⟨Nat.le_of_ble_eq_true rfl, Nat.le_of_ble_eq_true rfl⟩ rfl rfl (hv w15 hw15) (fun zx23 w24 hq => ?_)
              obtain ⟨r25, hw24, x23, ex23, hv⟩ := hq
              subst ex23
              show EJ X mX11_owe _ 0 0 _ _ (vJ x23 :: []) w24
              refine e_aload_n (pc := 92) (i := 0) dX11_owe_92 rfl rfl ?_
              refine n_get (pc := 93) hS hw24 8 dX11_owe_93 fRX11_32 rfl ?_
              refine e_iload_n (pc := 96) (i := 1) dX11_owe_96 rfl rfl ?_
              have hi26 : vp_in a1 301 := hv.1
              replace hv := hv.2
              refine n_lald (pc := 97) (wa := w24) hS hw24 8 dX11_owe_97 (by decide) rfl hi26 rfl ?_
              refine e_lsub (pc := 98) dX11_owe_98 ?_
              refine e_lload_n (pc := 99) (i := 2) dX11_owe_99 rfl rfl ?_
              refine e_ladd (pc := 100) dX11_owe_100 ?_
              refine e_aload_n (pc := 101) (i := 0) dX11_owe_101 rfl rfl ?_
              refine n_get (pc := 102) hS hw24 12 dX11_owe_102 fRX11_45 rfl ?_
              refine e_iload (pc := 105) (i := 4) dX11_owe_105 rfl ?_
              have hi27 : vp_in (rI r3 5 a1.toNatClampNeg) 301 := hv.1
              replace hv := hv.2
              refine n_lald (pc := 107) (wa := w24) hS hw24 12 dX11_owe_107 (by decide) rfl hi27 rfl ?_
              refine e_lcmp (pc := 108) dX11_owe_108 ?_
              refine e_if_le (pc := 109) (tgt := 119) dX11_owe_109 (by decide) (fun h28 => ?_) (fun h28 => ?_)
              · replace hv := hv.1 h28
                refine e_aload_n (pc := 119) (i := 0) dX11_owe_119 rfl rfl ?_
                refine n_get (pc := 120) hS hw24 8 dX11_owe_120 fRX11_32 rfl ?_
                refine e_iload_n (pc := 123) (i := 1) dX11_owe_123 rfl rfl ?_
                refine e_lload_n (pc := 124) (i := 2) dX11_owe_124 rfl rfl ?_
                have hi29 : vp_in a1 301 := hv.1
                replace hv := hv.2
                refine n_last (pc := 125) (wa := w24) hS hw24 8 dX11_owe_125 (by decide) rfl hi29 rfl (fun w31 hw31 => ?_)
                obtain ⟨r30, er30⟩ : ∃ r30 : Rs, r30 = uJ r25 8 a1.toNatClampNeg a2 := ⟨_, rfl⟩
                replace hv := hv r30 er30
                rw [← er30] at hw31
                refine e_aload_n (pc := 126) (i := 0) dX11_owe_126 rfl rfl ?_
                refine e_iconst (pc := 127) (v := 0) dX11_owe_127 (by decide) ?_
                refine n_putS (pc := 128) hS hw31 41 dX11_owe_128 fRX11_163 rfl rfl (fun w33 hw33 => ?_)
                obtain ⟨r32, er32⟩ : ∃ r32 : Rs, r32 = uS r30 41 0 := ⟨_, rfl⟩
                replace hv := hv r32 er32
                rw [← er32] at hw33
                refine e_iconst (pc := 131) (v := 1) dX11_owe_131 (by decide) ?_
                exact e_zreturn (pc := 132) dX11_owe_132 rfl (Or.inr rfl) ⟨r32, hw33, _, rfl, hv⟩
              · replace hv := hv.2 h28
                refine e_aload_n (pc := 112) (i := 0) dX11_owe_112 rfl rfl ?_
                refine e_bipush (pc := 113) (v := 8) dX11_owe_113 (by decide) ?_
                refine e_callV (pc := 115) (ci := 11) (st := []) (rc' := 0) (rs' := 0) (B' := bX11_no) [vI 8] dX11_owe_115 vRX11_238 kX11_no (by decide) rfl (hw24.K hS) rfl rfl (Nat.le_of_ble_eq_true rfl) ⟨Nat.le_of_ble_eq_true rfl, Nat.le_of_ble_eq_true rfl⟩ rfl rfl (hv w24 hw24) (fun zx34 w35 hq => ?_)
                obtain ⟨r36, hw35, x34, ex34, hv⟩ := hq
                subst ex34
                show EJ X mX11_owe _ 0 0 _ _ (vI x34 :: []) w35
                exact e_zreturn (pc := 118) dX11_owe_118 rfl hv.1 ⟨r36, hw35, _, rfl, hv.2⟩
          · replace hv := hv.2 h17
            refine e_aload_n (pc := 70) (i := 0) dX11_owe_70 rfl rfl ?_
            refine e_bipush (pc := 71) (v := 6) dX11_owe_71 (by decide) ?_
            refine e_callV (pc := 73) (ci := 11) (st := []) (rc' := 0) (rs' := 0) (B' := bX11_no) [vI 6] dX11_owe_73 vRX11_238 kX11_no (by decide) rfl (hw15.K hS) rfl rfl (Nat.le_of_ble_eq_true rfl) ⟨Nat.le_of_ble_eq_true rfl, Nat.le_of_ble_eq_true rfl⟩ rfl rfl (hv w15 hw15) (fun zx37 w38 hq => ?_)
            obtain ⟨r39, hw38, x37, ex37, hv⟩ := hq
            subst ex37
            show EJ X mX11_owe _ 0 0 _ _ (vI x37 :: []) w38
            exact e_zreturn (pc := 76) dX11_owe_76 rfl hv.1 ⟨r39, hw38, _, rfl, hv.2⟩
        · replace hv := hv.2 h13
          refine e_aload_n (pc := 56) (i := 0) dX11_owe_56 rfl rfl ?_
          refine e_iconst (pc := 57) (v := 5) dX11_owe_57 (by decide) ?_
          refine e_callV (pc := 58) (ci := 11) (st := []) (rc' := 0) (rs' := 0) (B' := bX11_no) [vI 5] dX11_owe_58 vRX11_238 kX11_no (by decide) rfl (hw2.K hS) rfl rfl (Nat.le_of_ble_eq_true rfl) ⟨Nat.le_of_ble_eq_true rfl, Nat.le_of_ble_eq_true rfl⟩ rfl rfl (hv w2 hw2) (fun zx40 w41 hq => ?_)
          obtain ⟨r42, hw41, x40, ex40, hv⟩ := hq
          subst ex40
          show EJ X mX11_owe _ 0 0 _ _ (vI x40 :: []) w41
          exact e_zreturn (pc := 61) dX11_owe_61 rfl hv.1 ⟨r42, hw41, _, rfl, hv.2⟩
    · replace hv := hv.2 h7
      refine e_aload_n (pc := 32) (i := 0) dX11_owe_32 rfl rfl ?_
      refine e_iconst (pc := 33) (v := 4) dX11_owe_33 (by decide) ?_
      refine e_callV (pc := 34) (ci := 11) (st := []) (rc' := 0) (rs' := 0) (B' := bX11_no) [vI 4] dX11_owe_34 vRX11_238 kX11_no (by decide) rfl (hw2.K hS) rfl rfl (Nat.le_of_ble_eq_true rfl) ⟨Nat.le_of_ble_eq_true rfl, Nat.le_of_ble_eq_true rfl⟩ rfl rfl (hv w2 hw2) (fun zx43 w44 hq => ?_)
      obtain ⟨r45, hw44, x43, ex43, hv⟩ := hq
      subst ex43
      show EJ X mX11_owe _ 0 0 _ _ (vI x43 :: []) w44
      exact e_zreturn (pc := 37) dX11_owe_37 rfl hv.1 ⟨r45, hw44, _, rfl, hv.2⟩
  · replace hv := hv.2 h4
    refine e_aload_n (pc := 8) (i := 0) dX11_owe_8 rfl rfl ?_
    refine e_iconst (pc := 9) (v := 1) dX11_owe_9 (by decide) ?_
    refine e_callV (pc := 10) (ci := 11) (st := []) (rc' := 0) (rs' := 0) (B' := bX11_no) [vI 1] dX11_owe_10 vRX11_238 kX11_no (by decide) rfl (hw2.K hS) rfl rfl (Nat.le_of_ble_eq_true rfl) ⟨Nat.le_of_ble_eq_true rfl, Nat.le_of_ble_eq_true rfl⟩ rfl rfl (hv w2 hw2) (fun zx46 w47 hq => ?_)
    obtain ⟨r48, hw47, x46, ex46, hv⟩ := hq
    subst ex46
    show EJ X mX11_owe _ 0 0 _ _ (vI x46 :: []) w47
    exact e_zreturn (pc := 13) dX11_owe_13 rfl hv.1 ⟨r48, hw47, _, rfl, hv.2⟩
set_option maxRecDepth 100000 in
set_option maxHeartbeats 4000000 in
theorem pX11_pay (X : Cx) (w0 : Wd) (m : Nat) (hS : Sh w0 m) (A : Int64 → Rs → Prop) (a1 : Int32) (a2 : Int64) (r : Rs)
    (hv : CM X w0 m bX11_isEntry mX11_isEntry [vI a1] r (pI fun x1 r3 => ((¬ x1 = 0) → vp_in a1 301 ∧ (((rI r3 3 a1.toNatClampNeg) = 4) → CM X w0 m bX11_refuse mX11_refuse [vI 4] r3 (pI fun x7 r9 => A x7.toInt64 r9)) ∧ ((¬ (rI r3 3 a1.toNatClampNeg) = 4) → vp_in a1 301 ∧ ((¬ (rI r3 3 a1.toNatClampNeg) = 6) → (((lg_cmp a2 0) < 0) → CM X w0 m bX11_refuse mX11_refuse [vI 5] r3 (pI fun x13 r15 => A x13.toInt64 r15)) ∧ ((¬ (lg_cmp a2 0) < 0) → CM X w0 m bX11_sumBelow mX11_sumBelow [vI a1] r3 (pJ fun x16 r18 => (((lg_cmp a2 x16) ≤ 0) → CM X w0 m bX11_livesNow mX11_livesNow [vI a1] r18 (pI fun x20 r22 => ((¬ x20 = 0) → vp_in a1 301 ∧ (((rI r22 9 a1.toNatClampNeg) = 0) → vp_in a1 301 ∧ vp_in a1 301 ∧ ∀ r28 : Rs, r28 = uJ r22 8 a1.toNatClampNeg ((rJ r22 8 a1.toNatClampNeg) - a2) → ∀ r30 : Rs, r30 = uS r28 41 0 → vp_in a1 301 ∧ A (rJ r30 8 a1.toNatClampNeg) r30) ∧ ((¬ (rI r22 9 a1.toNatClampNeg) = 0) → CM X w0 m bX11_refuse mX11_refuse [vI 8] r22 (pI fun x33 r35 => A x33.toInt64 r35))) ∧ ((x20 = 0) → CM X w0 m bX11_refuse mX11_refuse [vI 6] r22 (pI fun x36 r38 => A x36.toInt64 r38)))) ∧ ((¬ (lg_cmp a2 x16) ≤ 0) → CM X w0 m bX11_refuse mX11_refuse [vI 5] r18 (pI fun x39 r41 => A x39.toInt64 r41))))) ∧ (((rI r3 3 a1.toNatClampNeg) = 6) → CM X w0 m bX11_refuse mX11_refuse [vI 4] r3 (pI fun x42 r44 => A x42.toInt64 r44)))) ∧ ((x1 = 0) → CM X w0 m bX11_refuse mX11_refuse [vI 1] r3 (pI fun x45 r47 => A x45.toInt64 r47)))) :
    CM X w0 m bX11_pay mX11_pay [vI a1, vJ a2] r (pJ A) := by
  intro w hW
  refine Ct.of (Q := qM w0 m (pJ A)) (lv := [(0, vR m), (1, vI a1), (2, vJ a2)]) rfl (Nat.le_of_ble_eq_true rfl) rfl ?_
  refine e_aload_n (pc := 0) (i := 0) dX11_pay_0 rfl rfl ?_
  refine e_iload_n (pc := 1) (i := 1) dX11_pay_1 rfl rfl ?_
  refine e_callV (pc := 2) (ci := 11) (st := []) (rc' := 0) (rs' := 0) (B' := bX11_isEntry) [vI a1] dX11_pay_2 vRX11_224 kX11_isEntry (by decide) rfl (hW.K hS) rfl rfl (Nat.le_of_ble_eq_true rfl) ⟨Nat.le_of_ble_eq_true rfl, Nat.le_of_ble_eq_true rfl⟩ rfl rfl (hv w hW) (fun zx1 w2 hq => ?_)
  obtain ⟨r3, hw2, x1, ex1, hv⟩ := hq
  subst ex1
  show EJ X mX11_pay _ 0 0 _ _ (vI x1 :: []) w2
  refine e_if_ne (pc := 5) (tgt := 15) dX11_pay_5 (by decide) (fun h4 => ?_) (fun h4 => ?_)
  · replace hv := hv.1 h4
    refine e_aload_n (pc := 15) (i := 0) dX11_pay_15 rfl rfl ?_
    refine n_get (pc := 16) hS hw2 3 dX11_pay_16 fRX11_17 rfl ?_
    refine e_iload_n (pc := 19) (i := 1) dX11_pay_19 rfl rfl ?_
    have hi5 : vp_in a1 301 := hv.1
    replace hv := hv.2
    refine n_iald (pc := 20) (wa := w2) hS hw2 3 dX11_pay_20 (by decide) rfl hi5 rfl ?_
    refine e_iconst (pc := 21) (v := 4) dX11_pay_21 (by decide) ?_
    refine e_icmp_eq (pc := 22) (tgt := 36) dX11_pay_22 (by decide) (fun h6 => ?_) (fun h6 => ?_)
    · replace hv := hv.1 h6
      refine e_aload_n (pc := 36) (i := 0) dX11_pay_36 rfl rfl ?_
      refine e_iconst (pc := 37) (v := 4) dX11_pay_37 (by decide) ?_
      refine e_callV (pc := 38) (ci := 11) (st := []) (rc' := 0) (rs' := 0) (B' := bX11_refuse) [vI 4] dX11_pay_38 vRX11_231 kX11_refuse (by decide) rfl (hw2.K hS) rfl rfl (Nat.le_of_ble_eq_true rfl) ⟨Nat.le_of_ble_eq_true rfl, Nat.le_of_ble_eq_true rfl⟩ rfl rfl (hv w2 hw2) (fun zx7 w8 hq => ?_)
      obtain ⟨r9, hw8, x7, ex7, hv⟩ := hq
      subst ex7
      show EJ X mX11_pay _ 0 0 _ _ (vI x7 :: []) w8
      refine e_i2l (pc := 41) dX11_pay_41 ?_
      exact e_lreturn (pc := 42) dX11_pay_42 rfl ⟨r9, hw8, _, rfl, hv⟩
    · replace hv := hv.2 h6
      refine e_aload_n (pc := 25) (i := 0) dX11_pay_25 rfl rfl ?_
      refine n_get (pc := 26) hS hw2 3 dX11_pay_26 fRX11_17 rfl ?_
      refine e_iload_n (pc := 29) (i := 1) dX11_pay_29 rfl rfl ?_
      have hi10 : vp_in a1 301 := hv.1
      replace hv := hv.2
      refine n_iald (pc := 30) (wa := w2) hS hw2 3 dX11_pay_30 (by decide) rfl hi10 rfl ?_
      refine e_bipush (pc := 31) (v := 6) dX11_pay_31 (by decide) ?_
      refine e_icmp_ne (pc := 33) (tgt := 43) dX11_pay_33 (by decide) (fun h11 => ?_) (fun h11 => ?_)
      · replace hv := hv.1 h11
        refine e_lload_n (pc := 43) (i := 2) dX11_pay_43 rfl rfl ?_
        refine e_lconst (pc := 44) (v := 0) dX11_pay_44 (by decide) ?_
        refine e_lcmp (pc := 45) dX11_pay_45 ?_
        refine e_if_lt (pc := 46) (tgt := 59) dX11_pay_46 (by decide) (fun h12 => ?_) (fun h12 => ?_)
        · replace hv := hv.1 h12
          refine e_aload_n (pc := 59) (i := 0) dX11_pay_59 rfl rfl ?_
          refine e_iconst (pc := 60) (v := 5) dX11_pay_60 (by decide) ?_
          refine e_callV (pc := 61) (ci := 11) (st := []) (rc' := 0) (rs' := 0) (B' := bX11_refuse) [vI 5] dX11_pay_61 vRX11_231 kX11_refuse (by decide) rfl (hw2.K hS) rfl rfl (Nat.le_of_ble_eq_true rfl) ⟨Nat.le_of_ble_eq_true rfl, Nat.le_of_ble_eq_true rfl⟩ rfl rfl (hv w2 hw2) (fun zx13 w14 hq => ?_)
          obtain ⟨r15, hw14, x13, ex13, hv⟩ := hq
          subst ex13
          show EJ X mX11_pay _ 0 0 _ _ (vI x13 :: []) w14
          refine e_i2l (pc := 64) dX11_pay_64 ?_
          exact e_lreturn (pc := 65) dX11_pay_65 rfl ⟨r15, hw14, _, rfl, hv⟩
        · replace hv := hv.2 h12
          refine e_lload_n (pc := 49) (i := 2) dX11_pay_49 rfl rfl ?_
          refine e_aload_n (pc := 50) (i := 0) dX11_pay_50 rfl rfl ?_
          refine e_iload_n (pc := 51) (i := 1) dX11_pay_51 rfl rfl ?_
          refine e_callV (pc := 52) (ci := 11) (st := [vJ a2]) (rc' := 0) (rs' := 0) (B' := bX11_sumBelow) [vI a1] dX11_pay_52 vRX11_263 kX11_sumBelow (by decide) rfl (hw2.K hS) rfl rfl (Nat.le_of_ble_eq_true rfl) ⟨Nat.le_of_ble_eq_true rfl, Nat.le_of_ble_eq_true rfl⟩ rfl rfl (hv w2 hw2) (fun zx16 w17 hq => ?_)
          obtain ⟨r18, hw17, x16, ex16, hv⟩ := hq
          subst ex16
          show EJ X mX11_pay _ 0 0 _ _ (vJ x16 :: [vJ a2]) w17
          refine e_lcmp (pc := 55) dX11_pay_55 ?_
          refine e_if_le (pc := 56) (tgt := 66) dX11_pay_56 (by decide) (fun h19 => ?_) (fun h19 => ?_)
          · replace hv := hv.1 h19
            refine e_aload_n (pc := 66) (i := 0) dX11_pay_66 rfl rfl ?_
            refine e_iload_n (pc := 67) (i := 1) dX11_pay_67 rfl rfl ?_
            refine e_callV (pc := 68) (ci := 11) (st := []) (rc' := 0) (rs' := 0) (B' := bX11_livesNow) [vI a1] dX11_pay_68 vRX11_260 kX11_livesNow (by decide) rfl (hw17.K hS) rfl rfl (Nat.le_of_ble_eq_true rfl) ⟨Nat.le_of_ble_eq_true rfl, Nat.le_of_ble_eq_true rfl⟩ rfl rfl (hv w17 hw17) (fun zx20 w21 hq => ?_)
            obtain ⟨r22, hw21, x20, ex20, hv⟩ := hq
            subst ex20
            show EJ X mX11_pay _ 0 0 _ _ (vI x20 :: []) w21
            refine e_if_ne (pc := 71) (tgt := 82) dX11_pay_71 (by decide) (fun h23 => ?_) (fun h23 => ?_)
            · replace hv := hv.1 h23
              refine e_aload_n (pc := 82) (i := 0) dX11_pay_82 rfl rfl ?_
              refine n_get (pc := 83) hS hw21 9 dX11_pay_83 fRX11_36 rfl ?_
              refine e_iload_n (pc := 86) (i := 1) dX11_pay_86 rfl rfl ?_
              have hi24 : vp_in a1 301 := hv.1
              replace hv := hv.2
              refine n_iald (pc := 87) (wa := w21) hS hw21 9 dX11_pay_87 (by decide) rfl hi24 rfl ?_
              refine e_if_eq (pc := 88) (tgt := 99) dX11_pay_88 (by decide) (fun h25 => ?_) (fun h25 => ?_)
              · replace hv := hv.1 h25
                refine e_aload_n (pc := 99) (i := 0) dX11_pay_99 rfl rfl ?_
                refine n_get (pc := 100) hS hw21 8 dX11_pay_100 fRX11_32 rfl ?_
                refine e_iload_n (pc := 103) (i := 1) dX11_pay_103 rfl rfl ?_
                refine e_dup2_11 (pc := 104) dX11_pay_104 rfl rfl ?_
                have hi26 : vp_in a1 301 := hv.1
                replace hv := hv.2
                refine n_lald (pc := 105) (wa := w21) hS hw21 8 dX11_pay_105 (by decide) rfl hi26 rfl ?_
                refine e_lload_n (pc := 106) (i := 2) dX11_pay_106 rfl rfl ?_
                refine e_lsub (pc := 107) dX11_pay_107 ?_
                have hi27 : vp_in a1 301 := hv.1
                replace hv := hv.2
                refine n_last (pc := 108) (wa := w21) hS hw21 8 dX11_pay_108 (by decide) rfl hi27 rfl (fun w29 hw29 => ?_)
                obtain ⟨r28, er28⟩ : ∃ r28 : Rs, r28 = uJ r22 8 a1.toNatClampNeg ((rJ r22 8 a1.toNatClampNeg) - a2) := ⟨_, rfl⟩
                replace hv := hv r28 er28
                rw [← er28] at hw29
                refine e_aload_n (pc := 109) (i := 0) dX11_pay_109 rfl rfl ?_
                refine e_iconst (pc := 110) (v := 0) dX11_pay_110 (by decide) ?_
                refine n_putS (pc := 111) hS hw29 41 dX11_pay_111 fRX11_163 rfl rfl (fun w31 hw31 => ?_)
                obtain ⟨r30, er30⟩ : ∃ r30 : Rs, r30 = uS r28 41 0 := ⟨_, rfl⟩
                replace hv := hv r30 er30
                rw [← er30] at hw31
                refine e_aload_n (pc := 114) (i := 0) dX11_pay_114 rfl rfl ?_
                refine n_get (pc := 115) hS hw31 8 dX11_pay_115 fRX11_32 rfl ?_
                refine e_iload_n (pc := 118) (i := 1) dX11_pay_118 rfl rfl ?_
                have hi32 : vp_in a1 301 := hv.1
                replace hv := hv.2
                refine n_lald (pc := 119) (wa := w31) hS hw31 8 dX11_pay_119 (by decide) rfl hi32 rfl ?_
                exact e_lreturn (pc := 120) dX11_pay_120 rfl ⟨r30, hw31, _, rfl, hv⟩
              · replace hv := hv.2 h25
                refine e_aload_n (pc := 91) (i := 0) dX11_pay_91 rfl rfl ?_
                refine e_bipush (pc := 92) (v := 8) dX11_pay_92 (by decide) ?_
                refine e_callV (pc := 94) (ci := 11) (st := []) (rc' := 0) (rs' := 0) (B' := bX11_refuse) [vI 8] dX11_pay_94 vRX11_231 kX11_refuse (by decide) rfl (hw21.K hS) rfl rfl (Nat.le_of_ble_eq_true rfl) ⟨Nat.le_of_ble_eq_true rfl, Nat.le_of_ble_eq_true rfl⟩ rfl rfl (hv w21 hw21) (fun zx33 w34 hq => ?_)
                obtain ⟨r35, hw34, x33, ex33, hv⟩ := hq
                subst ex33
                show EJ X mX11_pay _ 0 0 _ _ (vI x33 :: []) w34
                refine e_i2l (pc := 97) dX11_pay_97 ?_
                exact e_lreturn (pc := 98) dX11_pay_98 rfl ⟨r35, hw34, _, rfl, hv⟩
            · replace hv := hv.2 h23
              refine e_aload_n (pc := 74) (i := 0) dX11_pay_74 rfl rfl ?_
              refine e_bipush (pc := 75) (v := 6) dX11_pay_75 (by decide) ?_
              refine e_callV (pc := 77) (ci := 11) (st := []) (rc' := 0) (rs' := 0) (B' := bX11_refuse) [vI 6] dX11_pay_77 vRX11_231 kX11_refuse (by decide) rfl (hw21.K hS) rfl rfl (Nat.le_of_ble_eq_true rfl) ⟨Nat.le_of_ble_eq_true rfl, Nat.le_of_ble_eq_true rfl⟩ rfl rfl (hv w21 hw21) (fun zx36 w37 hq => ?_)
              obtain ⟨r38, hw37, x36, ex36, hv⟩ := hq
              subst ex36
              show EJ X mX11_pay _ 0 0 _ _ (vI x36 :: []) w37
              refine e_i2l (pc := 80) dX11_pay_80 ?_
              exact e_lreturn (pc := 81) dX11_pay_81 rfl ⟨r38, hw37, _, rfl, hv⟩
          · replace hv := hv.2 h19
            refine e_aload_n (pc := 59) (i := 0) dX11_pay_59 rfl rfl ?_
            refine e_iconst (pc := 60) (v := 5) dX11_pay_60 (by decide) ?_
            refine e_callV (pc := 61) (ci := 11) (st := []) (rc' := 0) (rs' := 0) (B' := bX11_refuse) [vI 5] dX11_pay_61 vRX11_231 kX11_refuse (by decide) rfl (hw17.K hS) rfl rfl (Nat.le_of_ble_eq_true rfl) ⟨Nat.le_of_ble_eq_true rfl, Nat.le_of_ble_eq_true rfl⟩ rfl rfl (hv w17 hw17) (fun zx39 w40 hq => ?_)
            obtain ⟨r41, hw40, x39, ex39, hv⟩ := hq
            subst ex39
            show EJ X mX11_pay _ 0 0 _ _ (vI x39 :: []) w40
            refine e_i2l (pc := 64) dX11_pay_64 ?_
            exact e_lreturn (pc := 65) dX11_pay_65 rfl ⟨r41, hw40, _, rfl, hv⟩
      · replace hv := hv.2 h11
        refine e_aload_n (pc := 36) (i := 0) dX11_pay_36 rfl rfl ?_
        refine e_iconst (pc := 37) (v := 4) dX11_pay_37 (by decide) ?_
        refine e_callV (pc := 38) (ci := 11) (st := []) (rc' := 0) (rs' := 0) (B' := bX11_refuse) [vI 4] dX11_pay_38 vRX11_231 kX11_refuse (by decide) rfl (hw2.K hS) rfl rfl (Nat.le_of_ble_eq_true rfl) ⟨Nat.le_of_ble_eq_true rfl, Nat.le_of_ble_eq_true rfl⟩ rfl rfl (hv w2 hw2) (fun zx42 w43 hq => ?_)
        obtain ⟨r44, hw43, x42, ex42, hv⟩ := hq
        subst ex42
        show EJ X mX11_pay _ 0 0 _ _ (vI x42 :: []) w43
        refine e_i2l (pc := 41) dX11_pay_41 ?_
        exact e_lreturn (pc := 42) dX11_pay_42 rfl ⟨r44, hw43, _, rfl, hv⟩
  · replace hv := hv.2 h4
    refine e_aload_n (pc := 8) (i := 0) dX11_pay_8 rfl rfl ?_
    refine e_iconst (pc := 9) (v := 1) dX11_pay_9 (by decide) ?_
    refine e_callV (pc := 10) (ci := 11) (st := []) (rc' := 0) (rs' := 0) (B' := bX11_refuse) [vI 1] dX11_pay_10 vRX11_231 kX11_refuse (by decide) rfl (hw2.K hS) rfl rfl (Nat.le_of_ble_eq_true rfl) ⟨Nat.le_of_ble_eq_true rfl, Nat.le_of_ble_eq_true rfl⟩ rfl rfl (hv w2 hw2) (fun zx45 w46 hq => ?_)
    obtain ⟨r47, hw46, x45, ex45, hv⟩ := hq
    subst ex45
    show EJ X mX11_pay _ 0 0 _ _ (vI x45 :: []) w46
    refine e_i2l (pc := 13) dX11_pay_13 ?_
    exact e_lreturn (pc := 14) dX11_pay_14 rfl ⟨r47, hw46, _, rfl, hv⟩
abbrev iX11_paper_40 (X : Cx) (w0 : Wd) (m : Nat) (A : Int32 → Rs → Prop) (l1 : Int32) (l2 : Int32) (r : Rs) : Prop := ∀ w, Wm w0 m r w → EJ X mX11_paper (vw X bX11_paper (qM w0 m (pI A))) 0 0 40 [(0, vR m), (1, vI l1), (2, vI l2)] [] w
set_option maxRecDepth 100000 in
set_option maxHeartbeats 4000000 in
theorem rX11_paper_40 (X : Cx) (w0 : Wd) (m : Nat) (hS : Sh w0 m) (A : Int32 → Rs → Prop) (l1 : Int32) (l2 : Int32) (r : Rs)
    (hv : vp_in l1 301 ∧ ((¬ l2 = 0) → vp_in (rI r 5 l1.toNatClampNeg) 301 ∧ ∀ r4 : Rs, r4 = uI r 19 (rI r 5 l1.toNatClampNeg).toNatClampNeg 0 → ∀ r6 : Rs, r6 = uS r4 41 0 → A 1 r6) ∧ ((l2 = 0) → vp_in (rI r 5 l1.toNatClampNeg) 301 ∧ ∀ r9 : Rs, r9 = uI r 19 (rI r 5 l1.toNatClampNeg).toNatClampNeg 1 → ∀ r11 : Rs, r11 = uS r9 41 0 → A 1 r11)) :
    iX11_paper_40 X w0 m A l1 l2 r := by
  intro w hW
  refine e_aload_n (pc := 40) (i := 0) dX11_paper_40 rfl rfl ?_
  refine n_get (pc := 41) hS hW 19 dX11_paper_41 fRX11_66 rfl ?_
  refine e_aload_n (pc := 44) (i := 0) dX11_paper_44 rfl rfl ?_
  refine n_get (pc := 45) hS hW 5 dX11_paper_45 fRX11_23 rfl ?_
  refine e_iload_n (pc := 48) (i := 1) dX11_paper_48 rfl rfl ?_
  have hi1 : vp_in l1 301 := hv.1
  replace hv := hv.2
  refine n_iald (pc := 49) (wa := w) hS hW 5 dX11_paper_49 (by decide) rfl hi1 rfl ?_
  refine e_iload_n (pc := 50) (i := 2) dX11_paper_50 rfl rfl ?_
  refine e_if_ne (pc := 51) (tgt := 58) dX11_paper_51 (by decide) (fun h2 => ?_) (fun h2 => ?_)
  · replace hv := hv.1 h2
    refine e_iconst (pc := 58) (v := 0) dX11_paper_58 (by decide) ?_
    have hi3 : vp_in (rI r 5 l1.toNatClampNeg) 301 := hv.1
    replace hv := hv.2
    refine n_zast (pc := 59) (wa := w) hS hW 19 dX11_paper_59 (by decide) rfl hi3 rfl (Or.inl rfl) (fun w5 hw5 => ?_)
    obtain ⟨r4, er4⟩ : ∃ r4 : Rs, r4 = uI r 19 (rI r 5 l1.toNatClampNeg).toNatClampNeg 0 := ⟨_, rfl⟩
    replace hv := hv r4 er4
    rw [← er4] at hw5
    refine e_aload_n (pc := 60) (i := 0) dX11_paper_60 rfl rfl ?_
    refine e_iconst (pc := 61) (v := 0) dX11_paper_61 (by decide) ?_
    refine n_putS (pc := 62) hS hw5 41 dX11_paper_62 fRX11_163 rfl rfl (fun w7 hw7 => ?_)
    obtain ⟨r6, er6⟩ : ∃ r6 : Rs, r6 = uS r4 41 0 := ⟨_, rfl⟩
    replace hv := hv r6 er6
    rw [← er6] at hw7
    refine e_iconst (pc := 65) (v := 1) dX11_paper_65 (by decide) ?_
    exact e_zreturn (pc := 66) dX11_paper_66 rfl (Or.inr rfl) ⟨r6, hw7, _, rfl, hv⟩
  · replace hv := hv.2 h2
    refine e_iconst (pc := 54) (v := 1) dX11_paper_54 (by decide) ?_
    refine e_goto (pc := 55) (tgt := 59) dX11_paper_55 (by decide) ?_
    have hi8 : vp_in (rI r 5 l1.toNatClampNeg) 301 := hv.1
    replace hv := hv.2
    refine n_zast (pc := 59) (wa := w) hS hW 19 dX11_paper_59 (by decide) rfl hi8 rfl (Or.inr rfl) (fun w10 hw10 => ?_)
    obtain ⟨r9, er9⟩ : ∃ r9 : Rs, r9 = uI r 19 (rI r 5 l1.toNatClampNeg).toNatClampNeg 1 := ⟨_, rfl⟩
    replace hv := hv r9 er9
    rw [← er9] at hw10
    refine e_aload_n (pc := 60) (i := 0) dX11_paper_60 rfl rfl ?_
    refine e_iconst (pc := 61) (v := 0) dX11_paper_61 (by decide) ?_
    refine n_putS (pc := 62) hS hw10 41 dX11_paper_62 fRX11_163 rfl rfl (fun w12 hw12 => ?_)
    obtain ⟨r11, er11⟩ : ∃ r11 : Rs, r11 = uS r9 41 0 := ⟨_, rfl⟩
    replace hv := hv r11 er11
    rw [← er11] at hw12
    refine e_iconst (pc := 65) (v := 1) dX11_paper_65 (by decide) ?_
    exact e_zreturn (pc := 66) dX11_paper_66 rfl (Or.inr rfl) ⟨r11, hw12, _, rfl, hv⟩
set_option maxRecDepth 100000 in
set_option maxHeartbeats 4000000 in
theorem pX11_paper (X : Cx) (w0 : Wd) (m : Nat) (hS : Sh w0 m) (A : Int32 → Rs → Prop) (a1 : Int32) (a2 : Int32) (r : Rs)
    (hv : CM X w0 m bX11_isEntry mX11_isEntry [vI a1] r (pI fun x1 r3 => ((¬ x1 = 0) → vp_in a1 301 ∧ (((rI r3 3 a1.toNatClampNeg) = 2) → iX11_paper_40 X w0 m A a1 a2 r3) ∧ ((¬ (rI r3 3 a1.toNatClampNeg) = 2) → vp_in a1 301 ∧ (((rI r3 3 a1.toNatClampNeg) = 3) → iX11_paper_40 X w0 m A a1 a2 r3) ∧ ((¬ (rI r3 3 a1.toNatClampNeg) = 3) → CM X w0 m bX11_no mX11_no [vI 4] r3 (pI fun x9 r11 => (x9 = 0 ∨ x9 = 1) ∧ A x9 r11)))) ∧ ((x1 = 0) → CM X w0 m bX11_no mX11_no [vI 1] r3 (pI fun x12 r14 => (x12 = 0 ∨ x12 = 1) ∧ A x12 r14)))) :
    CM X w0 m bX11_paper mX11_paper [vI a1, vI a2] r (pI A) := by
  intro w hW
  refine Ct.of (Q := qM w0 m (pI A)) (lv := [(0, vR m), (1, vI a1), (2, vI a2)]) rfl (Nat.le_of_ble_eq_true rfl) rfl ?_
  refine e_aload_n (pc := 0) (i := 0) dX11_paper_0 rfl rfl ?_
  refine e_iload_n (pc := 1) (i := 1) dX11_paper_1 rfl rfl ?_
  refine e_callV (pc := 2) (ci := 11) (st := []) (rc' := 0) (rs' := 0) (B' := bX11_isEntry) [vI a1] dX11_paper_2 vRX11_224 kX11_isEntry (by decide) rfl (hW.K hS) rfl rfl (Nat.le_of_ble_eq_true rfl) ⟨Nat.le_of_ble_eq_true rfl, Nat.le_of_ble_eq_true rfl⟩ rfl rfl (hv w hW) (fun zx1 w2 hq => ?_)
  obtain ⟨r3, hw2, x1, ex1, hv⟩ := hq
  subst ex1
  show EJ X mX11_paper _ 0 0 _ _ (vI x1 :: []) w2
  refine e_if_ne (pc := 5) (tgt := 14) dX11_paper_5 (by decide) (fun h4 => ?_) (fun h4 => ?_)
  · replace hv := hv.1 h4
    refine e_aload_n (pc := 14) (i := 0) dX11_paper_14 rfl rfl ?_
    refine n_get (pc := 15) hS hw2 3 dX11_paper_15 fRX11_17 rfl ?_
    refine e_iload_n (pc := 18) (i := 1) dX11_paper_18 rfl rfl ?_
    have hi5 : vp_in a1 301 := hv.1
    replace hv := hv.2
    refine n_iald (pc := 19) (wa := w2) hS hw2 3 dX11_paper_19 (by decide) rfl hi5 rfl ?_
    refine e_iconst (pc := 20) (v := 2) dX11_paper_20 (by decide) ?_
    refine e_icmp_eq (pc := 21) (tgt := 40) dX11_paper_21 (by decide) (fun h6 => ?_) (fun h6 => ?_)
    · replace hv := hv.1 h6
      exact hv w2 hw2
    · replace hv := hv.2 h6
      refine e_aload_n (pc := 24) (i := 0) dX11_paper_24 rfl rfl ?_
      refine n_get (pc := 25) hS hw2 3 dX11_paper_25 fRX11_17 rfl ?_
      refine e_iload_n (pc := 28) (i := 1) dX11_paper_28 rfl rfl ?_
      have hi7 : vp_in a1 301 := hv.1
      replace hv := hv.2
      refine n_iald (pc := 29) (wa := w2) hS hw2 3 dX11_paper_29 (by decide) rfl hi7 rfl ?_
      refine e_iconst (pc := 30) (v := 3) dX11_paper_30 (by decide) ?_
      refine e_icmp_eq (pc := 31) (tgt := 40) dX11_paper_31 (by decide) (fun h8 => ?_) (fun h8 => ?_)
      · replace hv := hv.1 h8
        exact hv w2 hw2
      · replace hv := hv.2 h8
        refine e_aload_n (pc := 34) (i := 0) dX11_paper_34 rfl rfl ?_
        refine e_iconst (pc := 35) (v := 4) dX11_paper_35 (by decide) ?_
        refine e_callV (pc := 36) (ci := 11) (st := []) (rc' := 0) (rs' := 0) (B' := bX11_no) [vI 4] dX11_paper_36 vRX11_238 kX11_no (by decide) rfl (hw2.K hS) rfl rfl (Nat.le_of_ble_eq_true rfl) ⟨Nat.le_of_ble_eq_true rfl, Nat.le_of_ble_eq_true rfl⟩ rfl rfl (hv w2 hw2) (fun zx9 w10 hq => ?_)
        obtain ⟨r11, hw10, x9, ex9, hv⟩ := hq
        subst ex9
        show EJ X mX11_paper _ 0 0 _ _ (vI x9 :: []) w10
        exact e_zreturn (pc := 39) dX11_paper_39 rfl hv.1 ⟨r11, hw10, _, rfl, hv.2⟩
  · replace hv := hv.2 h4
    refine e_aload_n (pc := 8) (i := 0) dX11_paper_8 rfl rfl ?_
    refine e_iconst (pc := 9) (v := 1) dX11_paper_9 (by decide) ?_
    refine e_callV (pc := 10) (ci := 11) (st := []) (rc' := 0) (rs' := 0) (B' := bX11_no) [vI 1] dX11_paper_10 vRX11_238 kX11_no (by decide) rfl (hw2.K hS) rfl rfl (Nat.le_of_ble_eq_true rfl) ⟨Nat.le_of_ble_eq_true rfl, Nat.le_of_ble_eq_true rfl⟩ rfl rfl (hv w2 hw2) (fun zx12 w13 hq => ?_)
    obtain ⟨r14, hw13, x12, ex12, hv⟩ := hq
    subst ex12
    show EJ X mX11_paper _ 0 0 _ _ (vI x12 :: []) w13
    exact e_zreturn (pc := 13) dX11_paper_13 rfl hv.1 ⟨r14, hw13, _, rfl, hv.2⟩
abbrev iX11_parting_52 (X : Cx) (w0 : Wd) (m : Nat) (A : Int32 → Rs → Prop) (l1 : Int32) (l2 : Int64) (l5 : Int32) (l6 : Int32) (r : Rs) : Prop := ∀ w, Wm w0 m r w → EJ X mX11_parting (vw X bX11_parting (qM w0 m (pI A))) 0 0 52 [(0, vR m), (1, vI l1), (2, vJ l2), (5, vI l5), (6, vI l6)] [] w
abbrev iX11_parting_115 (X : Cx) (w0 : Wd) (m : Nat) (A : Int32 → Rs → Prop) (l1 : Int32) (r : Rs) : Prop := ∀ w, Wm w0 m r w → EJ X mX11_parting (vw X bX11_parting (qM w0 m (pI A))) 0 0 115 [(0, vR m), (1, vI l1)] [] w
set_option maxRecDepth 100000 in
set_option maxHeartbeats 4000000 in
theorem rX11_parting_115 (X : Cx) (w0 : Wd) (m : Nat) (hS : Sh w0 m) (A : Int32 → Rs → Prop) (l1 : Int32) (r : Rs)
    (hv : vp_in l1 301 ∧ (((rI r 9 l1.toNatClampNeg) = 0) → (((sS r 30) ≤ 298) → A 0 r) ∧ ((¬ (sS r 30) ≤ 298) → A 10 r)) ∧ ((¬ (rI r 9 l1.toNatClampNeg) = 0) → A 8 r)) :
    iX11_parting_115 X w0 m A l1 r := by
  intro w hW
  refine e_aload_n (pc := 115) (i := 0) dX11_parting_115 rfl rfl ?_
  refine n_get (pc := 116) hS hW 9 dX11_parting_116 fRX11_36 rfl ?_
  refine e_iload_n (pc := 119) (i := 1) dX11_parting_119 rfl rfl ?_
  have hi1 : vp_in l1 301 := hv.1
  replace hv := hv.2
  refine n_iald (pc := 120) (wa := w) hS hW 9 dX11_parting_120 (by decide) rfl hi1 rfl ?_
  refine e_if_eq (pc := 121) (tgt := 127) dX11_parting_121 (by decide) (fun h2 => ?_) (fun h2 => ?_)
  · replace hv := hv.1 h2
    refine e_aload_n (pc := 127) (i := 0) dX11_parting_127 rfl rfl ?_
    refine n_getS (pc := 128) hS hW 30 dX11_parting_128 fRX11_169 rfl ?_
    refine e_sipush (pc := 131) (v := 298) dX11_parting_131 (by decide) ?_
    refine e_icmp_le (pc := 134) (tgt := 142) dX11_parting_134 (by decide) (fun h3 => ?_) (fun h3 => ?_)
    · replace hv := hv.1 h3
      refine e_iconst (pc := 142) (v := 0) dX11_parting_142 (by decide) ?_
      exact e_ireturn (pc := 143) dX11_parting_143 rfl ⟨r, hW, _, rfl, hv⟩
    · replace hv := hv.2 h3
      refine e_bipush (pc := 137) (v := 10) dX11_parting_137 (by decide) ?_
      refine e_goto (pc := 139) (tgt := 143) dX11_parting_139 (by decide) ?_
      exact e_ireturn (pc := 143) dX11_parting_143 rfl ⟨r, hW, _, rfl, hv⟩
  · replace hv := hv.2 h2
    refine e_bipush (pc := 124) (v := 8) dX11_parting_124 (by decide) ?_
    exact e_ireturn (pc := 126) dX11_parting_126 rfl ⟨r, hW, _, rfl, hv⟩
set_option maxRecDepth 100000 in
set_option maxHeartbeats 4000000 in
theorem rX11_parting_52 (X : Cx) (w0 : Wd) (m : Nat) (hS : Sh w0 m) (A : Int32 → Rs → Prop) (l1 : Int32) (l2 : Int64) (l5 : Int32) (l6 : Int32) (r : Rs)
    (hv : (((lg_cmp l2 0) < 0) → A 5 r) ∧ ((¬ (lg_cmp l2 0) < 0) → CM X w0 m bX11_sumBelow mX11_sumBelow [vI l1] r (pJ fun x2 r4 => (((lg_cmp l2 x2) ≤ 0) → CM X w0 m bX11_livesNow mX11_livesNow [vI l1] r4 (pI fun x6 r8 => ((¬ x6 = 0) → ((l5 = 0) → iX11_parting_115 X w0 m A l1 r8) ∧ ((¬ l5 = 0) → ((l6 = 2) → vp_in l1 301 ∧ vp_in (rI r8 5 l1.toNatClampNeg) 301 ∧ (((rI r8 19 (rI r8 5 l1.toNatClampNeg).toNatClampNeg) = 0) → iX11_parting_115 X w0 m A l1 r8) ∧ ((¬ (rI r8 19 (rI r8 5 l1.toNatClampNeg).toNatClampNeg) = 0) → A 7 r8)) ∧ ((¬ l6 = 2) → ((¬ l6 = 3) → iX11_parting_115 X w0 m A l1 r8) ∧ ((l6 = 3) → vp_in l1 301 ∧ vp_in (rI r8 5 l1.toNatClampNeg) 301 ∧ (((rI r8 19 (rI r8 5 l1.toNatClampNeg).toNatClampNeg) = 0) → iX11_parting_115 X w0 m A l1 r8) ∧ ((¬ (rI r8 19 (rI r8 5 l1.toNatClampNeg).toNatClampNeg) = 0) → A 7 r8))))) ∧ ((x6 = 0) → A 6 r8))) ∧ ((¬ (lg_cmp l2 x2) ≤ 0) → A 5 r4)))) :
    iX11_parting_52 X w0 m A l1 l2 l5 l6 r := by
  intro w hW
  refine e_lload_n (pc := 52) (i := 2) dX11_parting_52 rfl rfl ?_
  refine e_lconst (pc := 53) (v := 0) dX11_parting_53 (by decide) ?_
  refine e_lcmp (pc := 54) dX11_parting_54 ?_
  refine e_if_lt (pc := 55) (tgt := 68) dX11_parting_55 (by decide) (fun h1 => ?_) (fun h1 => ?_)
  · replace hv := hv.1 h1
    refine e_iconst (pc := 68) (v := 5) dX11_parting_68 (by decide) ?_
    exact e_ireturn (pc := 69) dX11_parting_69 rfl ⟨r, hW, _, rfl, hv⟩
  · replace hv := hv.2 h1
    refine e_lload_n (pc := 58) (i := 2) dX11_parting_58 rfl rfl ?_
    refine e_aload_n (pc := 59) (i := 0) dX11_parting_59 rfl rfl ?_
    refine e_iload_n (pc := 60) (i := 1) dX11_parting_60 rfl rfl ?_
    refine e_callV (pc := 61) (ci := 11) (st := [vJ l2]) (rc' := 0) (rs' := 0) (B' := bX11_sumBelow) [vI l1] dX11_parting_61 vRX11_263 kX11_sumBelow (by decide) rfl (hW.K hS) rfl rfl (Nat.le_of_ble_eq_true rfl) ⟨Nat.le_of_ble_eq_true rfl, Nat.le_of_ble_eq_true rfl⟩ rfl rfl (hv w hW) (fun zx2 w3 hq => ?_)
    obtain ⟨r4, hw3, x2, ex2, hv⟩ := hq
    subst ex2
    show EJ X mX11_parting _ 0 0 _ _ (vJ x2 :: [vJ l2]) w3
    refine e_lcmp (pc := 64) dX11_parting_64 ?_
    refine e_if_le (pc := 65) (tgt := 70) dX11_parting_65 (by decide) (fun h5 => ?_) (fun h5 => ?_)
    · replace hv := hv.1 h5
      refine e_aload_n (pc := 70) (i := 0) dX11_parting_70 rfl rfl ?_
      refine e_iload_n (pc := 71) (i := 1) dX11_parting_71 rfl rfl ?_
      refine e_callV (pc := 72) (ci := 11) (st := []) (rc' := 0) (rs' := 0) (B' := bX11_livesNow) [vI l1] dX11_parting_72 vRX11_260 kX11_livesNow (by decide) rfl (hw3.K hS) rfl rfl (Nat.le_of_ble_eq_true rfl) ⟨Nat.le_of_ble_eq_true rfl, Nat.le_of_ble_eq_true rfl⟩ rfl rfl (hv w3 hw3) (fun zx6 w7 hq => ?_)
      obtain ⟨r8, hw7, x6, ex6, hv⟩ := hq
      subst ex6
      show EJ X mX11_parting _ 0 0 _ _ (vI x6 :: []) w7
      refine e_if_ne (pc := 75) (tgt := 81) dX11_parting_75 (by decide) (fun h9 => ?_) (fun h9 => ?_)
      · replace hv := hv.1 h9
        refine e_iload (pc := 81) (i := 5) dX11_parting_81 rfl ?_
        refine e_if_eq (pc := 83) (tgt := 115) dX11_parting_83 (by decide) (fun h10 => ?_) (fun h10 => ?_)
        · replace hv := hv.1 h10
          exact EJ.drop [0, 1] rfl (hv w7 hw7)
        · replace hv := hv.2 h10
          refine e_iload (pc := 86) (i := 6) dX11_parting_86 rfl ?_
          refine e_iconst (pc := 88) (v := 2) dX11_parting_88 (by decide) ?_
          refine e_icmp_eq (pc := 89) (tgt := 98) dX11_parting_89 (by decide) (fun h11 => ?_) (fun h11 => ?_)
          · replace hv := hv.1 h11
            refine e_aload_n (pc := 98) (i := 0) dX11_parting_98 rfl rfl ?_
            refine n_get (pc := 99) hS hw7 19 dX11_parting_99 fRX11_66 rfl ?_
            refine e_aload_n (pc := 102) (i := 0) dX11_parting_102 rfl rfl ?_
            refine n_get (pc := 103) hS hw7 5 dX11_parting_103 fRX11_23 rfl ?_
            refine e_iload_n (pc := 106) (i := 1) dX11_parting_106 rfl rfl ?_
            have hi12 : vp_in l1 301 := hv.1
            replace hv := hv.2
            refine n_iald (pc := 107) (wa := w7) hS hw7 5 dX11_parting_107 (by decide) rfl hi12 rfl ?_
            have hi13 : vp_in (rI r8 5 l1.toNatClampNeg) 301 := hv.1
            replace hv := hv.2
            refine n_zald (pc := 108) (wa := w7) hS hw7 19 dX11_parting_108 (by decide) rfl hi13 rfl ?_
            refine e_if_eq (pc := 109) (tgt := 115) dX11_parting_109 (by decide) (fun h14 => ?_) (fun h14 => ?_)
            · replace hv := hv.1 h14
              exact EJ.drop [0, 1] rfl (hv w7 hw7)
            · replace hv := hv.2 h14
              refine e_bipush (pc := 112) (v := 7) dX11_parting_112 (by decide) ?_
              exact e_ireturn (pc := 114) dX11_parting_114 rfl ⟨r8, hw7, _, rfl, hv⟩
          · replace hv := hv.2 h11
            refine e_iload (pc := 92) (i := 6) dX11_parting_92 rfl ?_
            refine e_iconst (pc := 94) (v := 3) dX11_parting_94 (by decide) ?_
            refine e_icmp_ne (pc := 95) (tgt := 115) dX11_parting_95 (by decide) (fun h15 => ?_) (fun h15 => ?_)
            · replace hv := hv.1 h15
              exact EJ.drop [0, 1] rfl (hv w7 hw7)
            · replace hv := hv.2 h15
              refine e_aload_n (pc := 98) (i := 0) dX11_parting_98 rfl rfl ?_
              refine n_get (pc := 99) hS hw7 19 dX11_parting_99 fRX11_66 rfl ?_
              refine e_aload_n (pc := 102) (i := 0) dX11_parting_102 rfl rfl ?_
              refine n_get (pc := 103) hS hw7 5 dX11_parting_103 fRX11_23 rfl ?_
              refine e_iload_n (pc := 106) (i := 1) dX11_parting_106 rfl rfl ?_
              have hi16 : vp_in l1 301 := hv.1
              replace hv := hv.2
              refine n_iald (pc := 107) (wa := w7) hS hw7 5 dX11_parting_107 (by decide) rfl hi16 rfl ?_
              have hi17 : vp_in (rI r8 5 l1.toNatClampNeg) 301 := hv.1
              replace hv := hv.2
              refine n_zald (pc := 108) (wa := w7) hS hw7 19 dX11_parting_108 (by decide) rfl hi17 rfl ?_
              refine e_if_eq (pc := 109) (tgt := 115) dX11_parting_109 (by decide) (fun h18 => ?_) (fun h18 => ?_)
              · replace hv := hv.1 h18
                exact EJ.drop [0, 1] rfl (hv w7 hw7)
              · replace hv := hv.2 h18
                refine e_bipush (pc := 112) (v := 7) dX11_parting_112 (by decide) ?_
                exact e_ireturn (pc := 114) dX11_parting_114 rfl ⟨r8, hw7, _, rfl, hv⟩
      · replace hv := hv.2 h9
        refine e_bipush (pc := 78) (v := 6) dX11_parting_78 (by decide) ?_
        exact e_ireturn (pc := 80) dX11_parting_80 rfl ⟨r8, hw7, _, rfl, hv⟩
    · replace hv := hv.2 h5
      refine e_iconst (pc := 68) (v := 5) dX11_parting_68 (by decide) ?_
      exact e_ireturn (pc := 69) dX11_parting_69 rfl ⟨r4, hw3, _, rfl, hv⟩
set_option maxRecDepth 100000 in
set_option maxHeartbeats 4000000 in
theorem pX11_parting (X : Cx) (w0 : Wd) (m : Nat) (hS : Sh w0 m) (A : Int32 → Rs → Prop) (a1 : Int32) (a2 : Int64) (a4 : Int32) (a5 : Int32) (r : Rs)
    (hv : CM X w0 m bX11_isEntry mX11_isEntry [vI a1] r (pI fun x1 r3 => ((¬ x1 = 0) → vp_in a1 301 ∧ (((rI r3 3 a1.toNatClampNeg) = 6) → A 4 r3) ∧ ((¬ (rI r3 3 a1.toNatClampNeg) = 6) → ((¬ (rI r3 3 a1.toNatClampNeg) = 4) → ((a5 = 0) → iX11_parting_52 X w0 m A a1 a2 a5 (rI r3 3 a1.toNatClampNeg) r3) ∧ ((¬ a5 = 0) → ((a4 < 1) → A 5 r3) ∧ ((¬ a4 < 1) → ((1000 < a4) → A 5 r3) ∧ ((¬ 1000 < a4) → iX11_parting_52 X w0 m A a1 a2 a5 (rI r3 3 a1.toNatClampNeg) r3)))) ∧ (((rI r3 3 a1.toNatClampNeg) = 4) → A 4 r3))) ∧ ((x1 = 0) → A 1 r3))) :
    CM X w0 m bX11_parting mX11_parting [vI a1, vJ a2, vI a4, vI a5] r (pI A) := by
  intro w hW
  refine Ct.of (Q := qM w0 m (pI A)) (lv := [(0, vR m), (1, vI a1), (2, vJ a2), (4, vI a4), (5, vI a5)]) rfl (Nat.le_of_ble_eq_true rfl) rfl ?_
  refine e_aload_n (pc := 0) (i := 0) dX11_parting_0 rfl rfl ?_
  refine e_iload_n (pc := 1) (i := 1) dX11_parting_1 rfl rfl ?_
  refine e_callV (pc := 2) (ci := 11) (st := []) (rc' := 0) (rs' := 0) (B' := bX11_isEntry) [vI a1] dX11_parting_2 vRX11_224 kX11_isEntry (by decide) rfl (hW.K hS) rfl rfl (Nat.le_of_ble_eq_true rfl) ⟨Nat.le_of_ble_eq_true rfl, Nat.le_of_ble_eq_true rfl⟩ rfl rfl (hv w hW) (fun zx1 w2 hq => ?_)
  obtain ⟨r3, hw2, x1, ex1, hv⟩ := hq
  subst ex1
  show EJ X mX11_parting _ 0 0 _ _ (vI x1 :: []) w2
  refine e_if_ne (pc := 5) (tgt := 10) dX11_parting_5 (by decide) (fun h4 => ?_) (fun h4 => ?_)
  · replace hv := hv.1 h4
    refine e_aload_n (pc := 10) (i := 0) dX11_parting_10 rfl rfl ?_
    refine n_get (pc := 11) hS hw2 3 dX11_parting_11 fRX11_17 rfl ?_
    refine e_iload_n (pc := 14) (i := 1) dX11_parting_14 rfl rfl ?_
    have hi5 : vp_in a1 301 := hv.1
    replace hv := hv.2
    refine n_iald (pc := 15) (wa := w2) hS hw2 3 dX11_parting_15 (by decide) rfl hi5 rfl ?_
    refine e_istore (pc := 16) (i := 6) (lv' := [(0, vR m), (1, vI a1), (2, vJ a2), (4, vI a4), (5, vI a5), (6, vI (rI r3 3 a1.toNatClampNeg))]) dX11_parting_16 (by decide) rfl ?_
    refine e_iload (pc := 18) (i := 6) dX11_parting_18 rfl ?_
    refine e_bipush (pc := 20) (v := 6) dX11_parting_20 (by decide) ?_
    refine e_icmp_eq (pc := 22) (tgt := 31) dX11_parting_22 (by decide) (fun h6 => ?_) (fun h6 => ?_)
    · replace hv := hv.1 h6
      refine e_iconst (pc := 31) (v := 4) dX11_parting_31 (by decide) ?_
      exact e_ireturn (pc := 32) dX11_parting_32 rfl ⟨r3, hw2, _, rfl, hv⟩
    · replace hv := hv.2 h6
      refine e_iload (pc := 25) (i := 6) dX11_parting_25 rfl ?_
      refine e_iconst (pc := 27) (v := 4) dX11_parting_27 (by decide) ?_
      refine e_icmp_ne (pc := 28) (tgt := 33) dX11_parting_28 (by decide) (fun h7 => ?_) (fun h7 => ?_)
      · replace hv := hv.1 h7
        refine e_iload (pc := 33) (i := 5) dX11_parting_33 rfl ?_
        refine e_if_eq (pc := 35) (tgt := 52) dX11_parting_35 (by decide) (fun h8 => ?_) (fun h8 => ?_)
        · replace hv := hv.1 h8
          exact EJ.drop [0, 1, 2, 5, 6] rfl (hv w2 hw2)
        · replace hv := hv.2 h8
          refine e_iload (pc := 38) (i := 4) dX11_parting_38 rfl ?_
          refine e_iconst (pc := 40) (v := 1) dX11_parting_40 (by decide) ?_
          refine e_icmp_lt (pc := 41) (tgt := 68) dX11_parting_41 (by decide) (fun h9 => ?_) (fun h9 => ?_)
          · replace hv := hv.1 h9
            refine e_iconst (pc := 68) (v := 5) dX11_parting_68 (by decide) ?_
            exact e_ireturn (pc := 69) dX11_parting_69 rfl ⟨r3, hw2, _, rfl, hv⟩
          · replace hv := hv.2 h9
            refine e_iload (pc := 44) (i := 4) dX11_parting_44 rfl ?_
            refine e_sipush (pc := 46) (v := 1000) dX11_parting_46 (by decide) ?_
            refine e_icmp_gt (pc := 49) (tgt := 68) dX11_parting_49 (by decide) (fun h10 => ?_) (fun h10 => ?_)
            · replace hv := hv.1 h10
              refine e_iconst (pc := 68) (v := 5) dX11_parting_68 (by decide) ?_
              exact e_ireturn (pc := 69) dX11_parting_69 rfl ⟨r3, hw2, _, rfl, hv⟩
            · replace hv := hv.2 h10
              exact EJ.drop [0, 1, 2, 5, 6] rfl (hv w2 hw2)
      · replace hv := hv.2 h7
        refine e_iconst (pc := 31) (v := 4) dX11_parting_31 (by decide) ?_
        exact e_ireturn (pc := 32) dX11_parting_32 rfl ⟨r3, hw2, _, rfl, hv⟩
  · replace hv := hv.2 h4
    refine e_iconst (pc := 8) (v := 1) dX11_parting_8 (by decide) ?_
    exact e_ireturn (pc := 9) dX11_parting_9 rfl ⟨r3, hw2, _, rfl, hv⟩
set_option maxRecDepth 100000 in
set_option maxHeartbeats 4000000 in
theorem pX11_part (X : Cx) (w0 : Wd) (m : Nat) (hS : Sh w0 m) (A : Int32 → Rs → Prop) (a1 : Int32) (a2 : Int64) (a4 : Int32) (r : Rs)
    (hv : vp_in a1 301 ∧ vp_in a1 301 ∧ vp_in a1 301 ∧ vp_in a1 301 ∧ vp_in a1 301 ∧ CM X w0 m bX11_make mX11_make [vI (rI r 4 a1.toNatClampNeg), vI (rI r 3 a1.toNatClampNeg), vI (rI r 5 a1.toNatClampNeg), vI a1, vI (rI r 7 a1.toNatClampNeg), vJ a2] r (pI fun x6 r8 => vp_in a1 301 ∧ vp_in a1 301 ∧ CM X w0 m bX11_make mX11_make [vI (rI r8 4 a1.toNatClampNeg), vI (rI r8 3 a1.toNatClampNeg), vI (rI r 5 a1.toNatClampNeg), vI a1, vI a4, vJ ((rJ r 8 a1.toNatClampNeg) - a2)] r8 (pI fun x11 r13 => vp_in a1 301 ∧ ∀ r15 : Rs, r15 = uI r13 9 a1.toNatClampNeg x6 → ∀ r17 : Rs, r17 = uS r15 41 0 → A (x11 - 1) r17))) :
    CM X w0 m bX11_part mX11_part [vI a1, vJ a2, vI a4] r (pI A) := by
  intro w hW
  refine Ct.of (Q := qM w0 m (pI A)) (lv := [(0, vR m), (1, vI a1), (2, vJ a2), (4, vI a4)]) rfl (Nat.le_of_ble_eq_true rfl) rfl ?_
  refine e_aload_n (pc := 0) (i := 0) dX11_part_0 rfl rfl ?_
  refine n_get (pc := 1) hS hW 5 dX11_part_1 fRX11_23 rfl ?_
  refine e_iload_n (pc := 4) (i := 1) dX11_part_4 rfl rfl ?_
  have hi1 : vp_in a1 301 := hv.1
  replace hv := hv.2
  refine n_iald (pc := 5) (wa := w) hS hW 5 dX11_part_5 (by decide) rfl hi1 rfl ?_
  refine e_istore (pc := 6) (i := 5) (lv' := [(0, vR m), (1, vI a1), (2, vJ a2), (4, vI a4), (5, vI (rI r 5 a1.toNatClampNeg))]) dX11_part_6 (by decide) rfl ?_
  refine e_aload_n (pc := 8) (i := 0) dX11_part_8 rfl rfl ?_
  refine n_get (pc := 9) hS hW 8 dX11_part_9 fRX11_32 rfl ?_
  refine e_iload_n (pc := 12) (i := 1) dX11_part_12 rfl rfl ?_
  have hi2 : vp_in a1 301 := hv.1
  replace hv := hv.2
  refine n_lald (pc := 13) (wa := w) hS hW 8 dX11_part_13 (by decide) rfl hi2 rfl ?_
  refine e_lstore (pc := 14) (i := 6) (lv' := [(0, vR m), (1, vI a1), (2, vJ a2), (4, vI a4), (5, vI (rI r 5 a1.toNatClampNeg)), (6, vJ (rJ r 8 a1.toNatClampNeg))]) dX11_part_14 (by decide) rfl ?_
  refine e_aload_n (pc := 16) (i := 0) dX11_part_16 rfl rfl ?_
  refine e_aload_n (pc := 17) (i := 0) dX11_part_17 rfl rfl ?_
  refine n_get (pc := 18) hS hW 4 dX11_part_18 fRX11_20 rfl ?_
  refine e_iload_n (pc := 21) (i := 1) dX11_part_21 rfl rfl ?_
  have hi3 : vp_in a1 301 := hv.1
  replace hv := hv.2
  refine n_iald (pc := 22) (wa := w) hS hW 4 dX11_part_22 (by decide) rfl hi3 rfl ?_
  refine e_aload_n (pc := 23) (i := 0) dX11_part_23 rfl rfl ?_
  refine n_get (pc := 24) hS hW 3 dX11_part_24 fRX11_17 rfl ?_
  refine e_iload_n (pc := 27) (i := 1) dX11_part_27 rfl rfl ?_
  have hi4 : vp_in a1 301 := hv.1
  replace hv := hv.2
  refine n_iald (pc := 28) (wa := w) hS hW 3 dX11_part_28 (by decide) rfl hi4 rfl ?_
  refine e_iload (pc := 29) (i := 5) dX11_part_29 rfl ?_
  refine e_iload_n (pc := 31) (i := 1) dX11_part_31 rfl rfl ?_
  refine e_aload_n (pc := 32) (i := 0) dX11_part_32 rfl rfl ?_
  refine n_get (pc := 33) hS hW 7 dX11_part_33 fRX11_29 rfl ?_
  refine e_iload_n (pc := 36) (i := 1) dX11_part_36 rfl rfl ?_
  have hi5 : vp_in a1 301 := hv.1
  replace hv := hv.2
  refine n_iald (pc := 37) (wa := w) hS hW 7 dX11_part_37 (by decide) rfl hi5 rfl ?_
  refine e_lload_n (pc := 38) (i := 2) dX11_part_38 rfl rfl ?_
  refine e_callV (pc := 39) (ci := 11) (st := []) (rc' := 0) (rs' := 0) (B' := bX11_make) [vI (rI r 4 a1.toNatClampNeg), vI (rI r 3 a1.toNatClampNeg), vI (rI r 5 a1.toNatClampNeg), vI a1, vI (rI r 7 a1.toNatClampNeg), vJ a2] dX11_part_39 vRX11_248 kX11_make (by decide) rfl (hW.K hS) rfl rfl (Nat.le_of_ble_eq_true rfl) ⟨Nat.le_of_ble_eq_true rfl, Nat.le_of_ble_eq_true rfl⟩ rfl rfl (hv w hW) (fun zx6 w7 hq => ?_)
  obtain ⟨r8, hw7, x6, ex6, hv⟩ := hq
  subst ex6
  show EJ X mX11_part _ 0 0 _ _ (vI x6 :: []) w7
  refine e_istore (pc := 42) (i := 8) (lv' := [(0, vR m), (1, vI a1), (2, vJ a2), (4, vI a4), (5, vI (rI r 5 a1.toNatClampNeg)), (6, vJ (rJ r 8 a1.toNatClampNeg)), (8, vI x6)]) dX11_part_42 (by decide) rfl ?_
  refine e_aload_n (pc := 44) (i := 0) dX11_part_44 rfl rfl ?_
  refine e_aload_n (pc := 45) (i := 0) dX11_part_45 rfl rfl ?_
  refine n_get (pc := 46) hS hw7 4 dX11_part_46 fRX11_20 rfl ?_
  refine e_iload_n (pc := 49) (i := 1) dX11_part_49 rfl rfl ?_
  have hi9 : vp_in a1 301 := hv.1
  replace hv := hv.2
  refine n_iald (pc := 50) (wa := w7) hS hw7 4 dX11_part_50 (by decide) rfl hi9 rfl ?_
  refine e_aload_n (pc := 51) (i := 0) dX11_part_51 rfl rfl ?_
  refine n_get (pc := 52) hS hw7 3 dX11_part_52 fRX11_17 rfl ?_
  refine e_iload_n (pc := 55) (i := 1) dX11_part_55 rfl rfl ?_
  have hi10 : vp_in a1 301 := hv.1
  replace hv := hv.2
  refine n_iald (pc := 56) (wa := w7) hS hw7 3 dX11_part_56 (by decide) rfl hi10 rfl ?_
  refine e_iload (pc := 57) (i := 5) dX11_part_57 rfl ?_
  refine e_iload_n (pc := 59) (i := 1) dX11_part_59 rfl rfl ?_
  refine e_iload (pc := 60) (i := 4) dX11_part_60 rfl ?_
  refine e_lload (pc := 62) (i := 6) dX11_part_62 rfl ?_
  refine e_lload_n (pc := 64) (i := 2) dX11_part_64 rfl rfl ?_
  refine e_lsub (pc := 65) dX11_part_65 ?_
  refine e_callV (pc := 66) (ci := 11) (st := []) (rc' := 0) (rs' := 0) (B' := bX11_make) [vI (rI r8 4 a1.toNatClampNeg), vI (rI r8 3 a1.toNatClampNeg), vI (rI r 5 a1.toNatClampNeg), vI a1, vI a4, vJ ((rJ r 8 a1.toNatClampNeg) - a2)] dX11_part_66 vRX11_248 kX11_make (by decide) rfl (hw7.K hS) rfl rfl (Nat.le_of_ble_eq_true rfl) ⟨Nat.le_of_ble_eq_true rfl, Nat.le_of_ble_eq_true rfl⟩ rfl rfl (hv w7 hw7) (fun zx11 w12 hq => ?_)
  obtain ⟨r13, hw12, x11, ex11, hv⟩ := hq
  subst ex11
  show EJ X mX11_part _ 0 0 _ _ (vI x11 :: []) w12
  refine e_istore (pc := 69) (i := 9) (lv' := [(0, vR m), (1, vI a1), (2, vJ a2), (4, vI a4), (5, vI (rI r 5 a1.toNatClampNeg)), (6, vJ (rJ r 8 a1.toNatClampNeg)), (8, vI x6), (9, vI x11)]) dX11_part_69 (by decide) rfl ?_
  refine e_aload_n (pc := 71) (i := 0) dX11_part_71 rfl rfl ?_
  refine n_get (pc := 72) hS hw12 9 dX11_part_72 fRX11_36 rfl ?_
  refine e_iload_n (pc := 75) (i := 1) dX11_part_75 rfl rfl ?_
  refine e_iload (pc := 76) (i := 8) dX11_part_76 rfl ?_
  have hi14 : vp_in a1 301 := hv.1
  replace hv := hv.2
  refine n_iast (pc := 78) (wa := w12) hS hw12 9 dX11_part_78 (by decide) rfl hi14 rfl (fun w16 hw16 => ?_)
  obtain ⟨r15, er15⟩ : ∃ r15 : Rs, r15 = uI r13 9 a1.toNatClampNeg x6 := ⟨_, rfl⟩
  replace hv := hv r15 er15
  rw [← er15] at hw16
  refine e_aload_n (pc := 79) (i := 0) dX11_part_79 rfl rfl ?_
  refine e_iconst (pc := 80) (v := 0) dX11_part_80 (by decide) ?_
  refine n_putS (pc := 81) hS hw16 41 dX11_part_81 fRX11_163 rfl rfl (fun w18 hw18 => ?_)
  obtain ⟨r17, er17⟩ : ∃ r17 : Rs, r17 = uS r15 41 0 := ⟨_, rfl⟩
  replace hv := hv r17 er17
  rw [← er17] at hw18
  refine e_iload (pc := 84) (i := 9) dX11_part_84 rfl ?_
  refine e_iconst (pc := 86) (v := 1) dX11_part_86 (by decide) ?_
  refine e_isub (pc := 87) dX11_part_87 ?_
  exact e_ireturn (pc := 88) dX11_part_88 rfl ⟨r17, hw18, _, rfl, hv⟩
set_option maxRecDepth 100000 in
set_option maxHeartbeats 4000000 in
theorem pX11_split (X : Cx) (w0 : Wd) (m : Nat) (hS : Sh w0 m) (A : Int32 → Rs → Prop) (a1 : Int32) (a2 : Int64) (r : Rs)
    (hv : CM X w0 m bX11_parting mX11_parting [vI a1, vJ a2, vI 1, vI 0] r (pI fun x1 r3 => ((x1 ≤ 0) → vp_in a1 301 ∧ CM X w0 m bX11_part mX11_part [vI a1, vJ a2, vI (rI r3 7 a1.toNatClampNeg)] r3 (pI fun x6 r8 => A x6 r8)) ∧ ((¬ x1 ≤ 0) → CM X w0 m bX11_refuse mX11_refuse [vI x1] r3 (pI fun x9 r11 => A x9 r11)))) :
    CM X w0 m bX11_split mX11_split [vI a1, vJ a2] r (pI A) := by
  intro w hW
  refine Ct.of (Q := qM w0 m (pI A)) (lv := [(0, vR m), (1, vI a1), (2, vJ a2)]) rfl (Nat.le_of_ble_eq_true rfl) rfl ?_
  refine e_aload_n (pc := 0) (i := 0) dX11_split_0 rfl rfl ?_
  refine e_iload_n (pc := 1) (i := 1) dX11_split_1 rfl rfl ?_
  refine e_lload_n (pc := 2) (i := 2) dX11_split_2 rfl rfl ?_
  refine e_iconst (pc := 3) (v := 1) dX11_split_3 (by decide) ?_
  refine e_iconst (pc := 4) (v := 0) dX11_split_4 (by decide) ?_
  refine e_callV (pc := 5) (ci := 11) (st := []) (rc' := 0) (rs' := 0) (B' := bX11_parting) [vI a1, vJ a2, vI 1, vI 0] dX11_split_5 vRX11_267 kX11_parting (by decide) rfl (hW.K hS) rfl rfl (Nat.le_of_ble_eq_true rfl) ⟨Nat.le_of_ble_eq_true rfl, Nat.le_of_ble_eq_true rfl⟩ rfl rfl (hv w hW) (fun zx1 w2 hq => ?_)
  obtain ⟨r3, hw2, x1, ex1, hv⟩ := hq
  subst ex1
  show EJ X mX11_split _ 0 0 _ _ (vI x1 :: []) w2
  refine e_istore (pc := 8) (i := 4) (lv' := [(0, vR m), (1, vI a1), (2, vJ a2), (4, vI x1)]) dX11_split_8 (by decide) rfl ?_
  refine e_iload (pc := 10) (i := 4) dX11_split_10 rfl ?_
  refine e_if_le (pc := 12) (tgt := 22) dX11_split_12 (by decide) (fun h4 => ?_) (fun h4 => ?_)
  · replace hv := hv.1 h4
    refine e_aload_n (pc := 22) (i := 0) dX11_split_22 rfl rfl ?_
    refine e_iload_n (pc := 23) (i := 1) dX11_split_23 rfl rfl ?_
    refine e_lload_n (pc := 24) (i := 2) dX11_split_24 rfl rfl ?_
    refine e_aload_n (pc := 25) (i := 0) dX11_split_25 rfl rfl ?_
    refine n_get (pc := 26) hS hw2 7 dX11_split_26 fRX11_29 rfl ?_
    refine e_iload_n (pc := 29) (i := 1) dX11_split_29 rfl rfl ?_
    have hi5 : vp_in a1 301 := hv.1
    replace hv := hv.2
    refine n_iald (pc := 30) (wa := w2) hS hw2 7 dX11_split_30 (by decide) rfl hi5 rfl ?_
    refine e_callV (pc := 31) (ci := 11) (st := []) (rc' := 0) (rs' := 0) (B' := bX11_part) [vI a1, vJ a2, vI (rI r3 7 a1.toNatClampNeg)] dX11_split_31 vRX11_271 kX11_part (by decide) rfl (hw2.K hS) rfl rfl (Nat.le_of_ble_eq_true rfl) ⟨Nat.le_of_ble_eq_true rfl, Nat.le_of_ble_eq_true rfl⟩ rfl rfl (hv w2 hw2) (fun zx6 w7 hq => ?_)
    obtain ⟨r8, hw7, x6, ex6, hv⟩ := hq
    subst ex6
    show EJ X mX11_split _ 0 0 _ _ (vI x6 :: []) w7
    exact e_ireturn (pc := 34) dX11_split_34 rfl ⟨r8, hw7, _, rfl, hv⟩
  · replace hv := hv.2 h4
    refine e_aload_n (pc := 15) (i := 0) dX11_split_15 rfl rfl ?_
    refine e_iload (pc := 16) (i := 4) dX11_split_16 rfl ?_
    refine e_callV (pc := 18) (ci := 11) (st := []) (rc' := 0) (rs' := 0) (B' := bX11_refuse) [vI x1] dX11_split_18 vRX11_231 kX11_refuse (by decide) rfl (hw2.K hS) rfl rfl (Nat.le_of_ble_eq_true rfl) ⟨Nat.le_of_ble_eq_true rfl, Nat.le_of_ble_eq_true rfl⟩ rfl rfl (hv w2 hw2) (fun zx9 w10 hq => ?_)
    obtain ⟨r11, hw10, x9, ex9, hv⟩ := hq
    subst ex9
    show EJ X mX11_split _ 0 0 _ _ (vI x9 :: []) w10
    exact e_ireturn (pc := 21) dX11_split_21 rfl ⟨r11, hw10, _, rfl, hv⟩
set_option maxRecDepth 100000 in
set_option maxHeartbeats 4000000 in
theorem pX11_hand (X : Cx) (w0 : Wd) (m : Nat) (hS : Sh w0 m) (A : Int32 → Rs → Prop) (a1 : Int32) (a2 : Int64) (a4 : Int32) (r : Rs)
    (hv : CM X w0 m bX11_parting mX11_parting [vI a1, vJ a2, vI a4, vI 1] r (pI fun x1 r3 => ((x1 ≤ 0) → vp_in a1 301 ∧ CM X w0 m bX11_part mX11_part [vI a1, vJ ((rJ r3 8 a1.toNatClampNeg) - a2), vI a4] r3 (pI fun x6 r8 => A (x6 + 1) r8)) ∧ ((¬ x1 ≤ 0) → CM X w0 m bX11_refuse mX11_refuse [vI x1] r3 (pI fun x9 r11 => A x9 r11)))) :
    CM X w0 m bX11_hand mX11_hand [vI a1, vJ a2, vI a4] r (pI A) := by
  intro w hW
  refine Ct.of (Q := qM w0 m (pI A)) (lv := [(0, vR m), (1, vI a1), (2, vJ a2), (4, vI a4)]) rfl (Nat.le_of_ble_eq_true rfl) rfl ?_
  refine e_aload_n (pc := 0) (i := 0) dX11_hand_0 rfl rfl ?_
  refine e_iload_n (pc := 1) (i := 1) dX11_hand_1 rfl rfl ?_
  refine e_lload_n (pc := 2) (i := 2) dX11_hand_2 rfl rfl ?_
  refine e_iload (pc := 3) (i := 4) dX11_hand_3 rfl ?_
  refine e_iconst (pc := 5) (v := 1) dX11_hand_5 (by decide) ?_
  refine e_callV (pc := 6) (ci := 11) (st := []) (rc' := 0) (rs' := 0) (B' := bX11_parting) [vI a1, vJ a2, vI a4, vI 1] dX11_hand_6 vRX11_267 kX11_parting (by decide) rfl (hW.K hS) rfl rfl (Nat.le_of_ble_eq_true rfl) ⟨Nat.le_of_ble_eq_true rfl, Nat.le_of_ble_eq_true rfl⟩ rfl rfl (hv w hW) (fun zx1 w2 hq => ?_)
  obtain ⟨r3, hw2, x1, ex1, hv⟩ := hq
  subst ex1
  show EJ X mX11_hand _ 0 0 _ _ (vI x1 :: []) w2
  refine e_istore (pc := 9) (i := 5) (lv' := [(0, vR m), (1, vI a1), (2, vJ a2), (4, vI a4), (5, vI x1)]) dX11_hand_9 (by decide) rfl ?_
  refine e_iload (pc := 11) (i := 5) dX11_hand_11 rfl ?_
  refine e_if_le (pc := 13) (tgt := 23) dX11_hand_13 (by decide) (fun h4 => ?_) (fun h4 => ?_)
  · replace hv := hv.1 h4
    refine e_aload_n (pc := 23) (i := 0) dX11_hand_23 rfl rfl ?_
    refine n_get (pc := 24) hS hw2 8 dX11_hand_24 fRX11_32 rfl ?_
    refine e_iload_n (pc := 27) (i := 1) dX11_hand_27 rfl rfl ?_
    have hi5 : vp_in a1 301 := hv.1
    replace hv := hv.2
    refine n_lald (pc := 28) (wa := w2) hS hw2 8 dX11_hand_28 (by decide) rfl hi5 rfl ?_
    refine e_lload_n (pc := 29) (i := 2) dX11_hand_29 rfl rfl ?_
    refine e_lsub (pc := 30) dX11_hand_30 ?_
    refine e_lstore (pc := 31) (i := 6) (lv' := [(0, vR m), (1, vI a1), (2, vJ a2), (4, vI a4), (5, vI x1), (6, vJ ((rJ r3 8 a1.toNatClampNeg) - a2))]) dX11_hand_31 (by decide) rfl ?_
    refine e_aload_n (pc := 33) (i := 0) dX11_hand_33 rfl rfl ?_
    refine e_iload_n (pc := 34) (i := 1) dX11_hand_34 rfl rfl ?_
    refine e_lload (pc := 35) (i := 6) dX11_hand_35 rfl ?_
    refine e_iload (pc := 37) (i := 4) dX11_hand_37 rfl ?_
    refine e_callV (pc := 39) (ci := 11) (st := []) (rc' := 0) (rs' := 0) (B' := bX11_part) [vI a1, vJ ((rJ r3 8 a1.toNatClampNeg) - a2), vI a4] dX11_hand_39 vRX11_271 kX11_part (by decide) rfl (hw2.K hS) rfl rfl (Nat.le_of_ble_eq_true rfl) ⟨Nat.le_of_ble_eq_true rfl, Nat.le_of_ble_eq_true rfl⟩ rfl rfl (hv w2 hw2) (fun zx6 w7 hq => ?_)
    obtain ⟨r8, hw7, x6, ex6, hv⟩ := hq
    subst ex6
    show EJ X mX11_hand _ 0 0 _ _ (vI x6 :: []) w7
    refine e_iconst (pc := 42) (v := 1) dX11_hand_42 (by decide) ?_
    refine e_iadd (pc := 43) dX11_hand_43 ?_
    exact e_ireturn (pc := 44) dX11_hand_44 rfl ⟨r8, hw7, _, rfl, hv⟩
  · replace hv := hv.2 h4
    refine e_aload_n (pc := 16) (i := 0) dX11_hand_16 rfl rfl ?_
    refine e_iload (pc := 17) (i := 5) dX11_hand_17 rfl ?_
    refine e_callV (pc := 19) (ci := 11) (st := []) (rc' := 0) (rs' := 0) (B' := bX11_refuse) [vI x1] dX11_hand_19 vRX11_231 kX11_refuse (by decide) rfl (hw2.K hS) rfl rfl (Nat.le_of_ble_eq_true rfl) ⟨Nat.le_of_ble_eq_true rfl, Nat.le_of_ble_eq_true rfl⟩ rfl rfl (hv w2 hw2) (fun zx9 w10 hq => ?_)
    obtain ⟨r11, hw10, x9, ex9, hv⟩ := hq
    subst ex9
    show EJ X mX11_hand _ 0 0 _ _ (vI x9 :: []) w10
    exact e_ireturn (pc := 22) dX11_hand_22 rfl ⟨r11, hw10, _, rfl, hv⟩
set_option maxRecDepth 100000 in
set_option maxHeartbeats 4000000 in
theorem pX11_isUndone (X : Cx) (w0 : Wd) (m : Nat) (hS : Sh w0 m) (A : Int32 → Rs → Prop) (a1 : Int32) (r : Rs)
    (hv : vp_in a1 101 ∧ (((rI r 37 a1.toNatClampNeg) = (-1)) → A 0 r) ∧ ((¬ (rI r 37 a1.toNatClampNeg) = (-1)) → A 1 r)) :
    CM X w0 m bX11_isUndone mX11_isUndone [vI a1] r (pI A) := by
  intro w hW
  refine Ct.of (Q := qM w0 m (pI A)) (lv := [(0, vR m), (1, vI a1)]) rfl (Nat.le_of_ble_eq_true rfl) rfl ?_
  refine e_aload_n (pc := 0) (i := 0) dX11_isUndone_0 rfl rfl ?_
  refine n_get (pc := 1) hS hW 37 dX11_isUndone_1 fRX11_117 rfl ?_
  refine e_iload_n (pc := 4) (i := 1) dX11_isUndone_4 rfl rfl ?_
  have hi1 : vp_in a1 101 := hv.1
  replace hv := hv.2
  refine n_iald (pc := 5) (wa := w) hS hW 37 dX11_isUndone_5 (by decide) rfl hi1 rfl ?_
  refine e_iconst (pc := 6) (v := (-1)) dX11_isUndone_6 (by decide) ?_
  refine e_icmp_eq (pc := 7) (tgt := 14) dX11_isUndone_7 (by decide) (fun h2 => ?_) (fun h2 => ?_)
  · replace hv := hv.1 h2
    refine e_iconst (pc := 14) (v := 0) dX11_isUndone_14 (by decide) ?_
    exact e_zreturn (pc := 15) dX11_isUndone_15 rfl (Or.inl rfl) ⟨r, hW, _, rfl, hv⟩
  · replace hv := hv.2 h2
    refine e_iconst (pc := 10) (v := 1) dX11_isUndone_10 (by decide) ?_
    refine e_goto (pc := 11) (tgt := 15) dX11_isUndone_11 (by decide) ?_
    exact e_zreturn (pc := 15) dX11_isUndone_15 rfl (Or.inr rfl) ⟨r, hW, _, rfl, hv⟩
abbrev iX11_measure_2 (X : Cx) (w0 : Wd) (m : Nat) (A : Rs → Prop) (l1 : Int32) (l2 : Int32) (r : Rs) : Prop := ∀ w, Wm w0 m r w → EJ X mX11_measure (vw X bX11_measure (qM w0 m (pV A))) 0 0 2 [(0, vR m), (1, vI l1), (2, vI l2)] [] w
abbrev iX11_measure_34 (X : Cx) (w0 : Wd) (m : Nat) (A : Rs → Prop) (l2 : Int32) (r : Rs) : Prop := ∀ w, Wm w0 m r w → EJ X mX11_measure (vw X bX11_measure (qM w0 m (pV A))) 0 0 34 [(0, vR m), (2, vI l2)] [] w
abbrev iX11_measure_44 (X : Cx) (w0 : Wd) (m : Nat) (A : Rs → Prop) (l2 : Int32) (l3 : Int32) (r : Rs) : Prop := ∀ w, Wm w0 m r w → EJ X mX11_measure (vw X bX11_measure (qM w0 m (pV A))) 0 0 44 [(0, vR m), (2, vI l2), (3, vI l3)] [] w
set_option maxRecDepth 100000 in
set_option maxHeartbeats 4000000 in
theorem rX11_measure_44 (X : Cx) (w0 : Wd) (m : Nat) (hS : Sh w0 m) (A : Rs → Prop) (l2 : Int32) (l3 : Int32) (r : Rs)
    (hv : (((sS r 38) < l3) → iX11_measure_34 X w0 m A (l2 + 1) r) ∧ ((¬ (sS r 38) < l3) → vp_in l3 101 ∧ vp_in (rI r 31 l3.toNatClampNeg) 301 ∧ vp_in l3 101 ∧ vp_in (rI r 32 l3.toNatClampNeg) 301 ∧ CM X w0 m bX11_isUndone mX11_isUndone [vI l3] r (pI fun x6 r8 => ((¬ x6 = 0) → iX11_measure_44 X w0 m A l2 (l3 + 1) r8) ∧ ((x6 = 0) → vp_in (rI r 5 (rI r 32 l3.toNatClampNeg).toNatClampNeg) 301 ∧ ((¬ (rI r8 50 (rI r 5 (rI r 32 l3.toNatClampNeg).toNatClampNeg).toNatClampNeg) = l2) → iX11_measure_44 X w0 m A l2 (l3 + 1) r8) ∧ (((rI r8 50 (rI r 5 (rI r 32 l3.toNatClampNeg).toNatClampNeg).toNatClampNeg) = l2) → vp_in (rI r 5 (rI r 31 l3.toNatClampNeg).toNatClampNeg) 301 ∧ ((¬ (rI r8 50 (rI r 5 (rI r 31 l3.toNatClampNeg).toNatClampNeg).toNatClampNeg) = (-1)) → iX11_measure_44 X w0 m A l2 (l3 + 1) r8) ∧ (((rI r8 50 (rI r 5 (rI r 31 l3.toNatClampNeg).toNatClampNeg).toNatClampNeg) = (-1)) → vp_in (rI r 5 (rI r 31 l3.toNatClampNeg).toNatClampNeg) 301 ∧ ∀ r15 : Rs, r15 = uI r8 50 (rI r 5 (rI r 31 l3.toNatClampNeg).toNatClampNeg).toNatClampNeg (l2 + 1) → iX11_measure_44 X w0 m A l2 (l3 + 1) r15)))))) :
    iX11_measure_44 X w0 m A l2 l3 r := by
  intro w hW
  refine e_iload_n (pc := 44) (i := 3) dX11_measure_44 rfl rfl ?_
  refine e_aload_n (pc := 45) (i := 0) dX11_measure_45 rfl rfl ?_
  refine n_getS (pc := 46) hS hW 38 dX11_measure_46 fRX11_275 rfl ?_
  refine e_icmp_gt (pc := 49) (tgt := 124) dX11_measure_49 (by decide) (fun h1 => ?_) (fun h1 => ?_)
  · replace hv := hv.1 h1
    refine e_iinc (pc := 124) (v := l2 + 1) (lv' := [(0, vR m), (2, vI (l2 + 1)), (3, vI l3)]) dX11_measure_124 rfl rfl (by decide) rfl ?_
    refine e_goto (pc := 127) (tgt := 34) dX11_measure_127 (by decide) ?_
    exact EJ.drop [0, 2] rfl (hv w hW)
  · replace hv := hv.2 h1
    refine e_aload_n (pc := 52) (i := 0) dX11_measure_52 rfl rfl ?_
    refine n_get (pc := 53) hS hW 5 dX11_measure_53 fRX11_23 rfl ?_
    refine e_aload_n (pc := 56) (i := 0) dX11_measure_56 rfl rfl ?_
    refine n_get (pc := 57) hS hW 31 dX11_measure_57 fRX11_99 rfl ?_
    refine e_iload_n (pc := 60) (i := 3) dX11_measure_60 rfl rfl ?_
    have hi2 : vp_in l3 101 := hv.1
    replace hv := hv.2
    refine n_iald (pc := 61) (wa := w) hS hW 31 dX11_measure_61 (by decide) rfl hi2 rfl ?_
    have hi3 : vp_in (rI r 31 l3.toNatClampNeg) 301 := hv.1
    replace hv := hv.2
    refine n_iald (pc := 62) (wa := w) hS hW 5 dX11_measure_62 (by decide) rfl hi3 rfl ?_
    refine e_istore (pc := 63) (i := 4) (lv' := [(0, vR m), (2, vI l2), (3, vI l3), (4, vI (rI r 5 (rI r 31 l3.toNatClampNeg).toNatClampNeg))]) dX11_measure_63 (by decide) rfl ?_
    refine e_aload_n (pc := 65) (i := 0) dX11_measure_65 rfl rfl ?_
    refine n_get (pc := 66) hS hW 5 dX11_measure_66 fRX11_23 rfl ?_
    refine e_aload_n (pc := 69) (i := 0) dX11_measure_69 rfl rfl ?_
    refine n_get (pc := 70) hS hW 32 dX11_measure_70 fRX11_102 rfl ?_
    refine e_iload_n (pc := 73) (i := 3) dX11_measure_73 rfl rfl ?_
    have hi4 : vp_in l3 101 := hv.1
    replace hv := hv.2
    refine n_iald (pc := 74) (wa := w) hS hW 32 dX11_measure_74 (by decide) rfl hi4 rfl ?_
    have hi5 : vp_in (rI r 32 l3.toNatClampNeg) 301 := hv.1
    replace hv := hv.2
    refine n_iald (pc := 75) (wa := w) hS hW 5 dX11_measure_75 (by decide) rfl hi5 rfl ?_
    refine e_istore (pc := 76) (i := 5) (lv' := [(0, vR m), (2, vI l2), (3, vI l3), (4, vI (rI r 5 (rI r 31 l3.toNatClampNeg).toNatClampNeg)), (5, vI (rI r 5 (rI r 32 l3.toNatClampNeg).toNatClampNeg))]) dX11_measure_76 (by decide) rfl ?_
    refine e_aload_n (pc := 78) (i := 0) dX11_measure_78 rfl rfl ?_
    refine e_iload_n (pc := 79) (i := 3) dX11_measure_79 rfl rfl ?_
    refine e_callV (pc := 80) (ci := 11) (st := []) (rc' := 0) (rs' := 0) (B' := bX11_isUndone) [vI l3] dX11_measure_80 vRX11_278 kX11_isUndone (by decide) rfl (hW.K hS) rfl rfl (Nat.le_of_ble_eq_true rfl) ⟨Nat.le_of_ble_eq_true rfl, Nat.le_of_ble_eq_true rfl⟩ rfl rfl (hv w hW) (fun zx6 w7 hq => ?_)
    obtain ⟨r8, hw7, x6, ex6, hv⟩ := hq
    subst ex6
    show EJ X mX11_measure _ 0 0 _ _ (vI x6 :: []) w7
    refine e_if_ne (pc := 83) (tgt := 118) dX11_measure_83 (by decide) (fun h9 => ?_) (fun h9 => ?_)
    · replace hv := hv.1 h9
      refine e_iinc (pc := 118) (v := l3 + 1) (lv' := [(0, vR m), (2, vI l2), (3, vI (l3 + 1)), (4, vI (rI r 5 (rI r 31 l3.toNatClampNeg).toNatClampNeg)), (5, vI (rI r 5 (rI r 32 l3.toNatClampNeg).toNatClampNeg))]) dX11_measure_118 rfl rfl (by decide) rfl ?_
      refine e_goto (pc := 121) (tgt := 44) dX11_measure_121 (by decide) ?_
      exact EJ.drop [0, 2, 3] rfl (hv w7 hw7)
    · replace hv := hv.2 h9
      refine e_aload_n (pc := 86) (i := 0) dX11_measure_86 rfl rfl ?_
      refine n_get (pc := 87) hS hw7 50 dX11_measure_87 fRX11_130 rfl ?_
      refine e_iload (pc := 90) (i := 5) dX11_measure_90 rfl ?_
      have hi10 : vp_in (rI r 5 (rI r 32 l3.toNatClampNeg).toNatClampNeg) 301 := hv.1
      replace hv := hv.2
      refine n_iald (pc := 92) (wa := w7) hS hw7 50 dX11_measure_92 (by decide) rfl hi10 rfl ?_
      refine e_iload_n (pc := 93) (i := 2) dX11_measure_93 rfl rfl ?_
      refine e_icmp_ne (pc := 94) (tgt := 118) dX11_measure_94 (by decide) (fun h11 => ?_) (fun h11 => ?_)
      · replace hv := hv.1 h11
        refine e_iinc (pc := 118) (v := l3 + 1) (lv' := [(0, vR m), (2, vI l2), (3, vI (l3 + 1)), (4, vI (rI r 5 (rI r 31 l3.toNatClampNeg).toNatClampNeg)), (5, vI (rI r 5 (rI r 32 l3.toNatClampNeg).toNatClampNeg))]) dX11_measure_118 rfl rfl (by decide) rfl ?_
        refine e_goto (pc := 121) (tgt := 44) dX11_measure_121 (by decide) ?_
        exact EJ.drop [0, 2, 3] rfl (hv w7 hw7)
      · replace hv := hv.2 h11
        refine e_aload_n (pc := 97) (i := 0) dX11_measure_97 rfl rfl ?_
        refine n_get (pc := 98) hS hw7 50 dX11_measure_98 fRX11_130 rfl ?_
        refine e_iload (pc := 101) (i := 4) dX11_measure_101 rfl ?_
        have hi12 : vp_in (rI r 5 (rI r 31 l3.toNatClampNeg).toNatClampNeg) 301 := hv.1
        replace hv := hv.2
        refine n_iald (pc := 103) (wa := w7) hS hw7 50 dX11_measure_103 (by decide) rfl hi12 rfl ?_
        refine e_iconst (pc := 104) (v := (-1)) dX11_measure_104 (by decide) ?_
        refine e_icmp_ne (pc := 105) (tgt := 118) dX11_measure_105 (by decide) (fun h13 => ?_) (fun h13 => ?_)
        · replace hv := hv.1 h13
          refine e_iinc (pc := 118) (v := l3 + 1) (lv' := [(0, vR m), (2, vI l2), (3, vI (l3 + 1)), (4, vI (rI r 5 (rI r 31 l3.toNatClampNeg).toNatClampNeg)), (5, vI (rI r 5 (rI r 32 l3.toNatClampNeg).toNatClampNeg))]) dX11_measure_118 rfl rfl (by decide) rfl ?_
          refine e_goto (pc := 121) (tgt := 44) dX11_measure_121 (by decide) ?_
          exact EJ.drop [0, 2, 3] rfl (hv w7 hw7)
        · replace hv := hv.2 h13
          refine e_aload_n (pc := 108) (i := 0) dX11_measure_108 rfl rfl ?_
          refine n_get (pc := 109) hS hw7 50 dX11_measure_109 fRX11_130 rfl ?_
          refine e_iload (pc := 112) (i := 4) dX11_measure_112 rfl ?_
          refine e_iload_n (pc := 114) (i := 2) dX11_measure_114 rfl rfl ?_
          refine e_iconst (pc := 115) (v := 1) dX11_measure_115 (by decide) ?_
          refine e_iadd (pc := 116) dX11_measure_116 ?_
          have hi14 : vp_in (rI r 5 (rI r 31 l3.toNatClampNeg).toNatClampNeg) 301 := hv.1
          replace hv := hv.2
          refine n_iast (pc := 117) (wa := w7) hS hw7 50 dX11_measure_117 (by decide) rfl hi14 rfl (fun w16 hw16 => ?_)
          obtain ⟨r15, er15⟩ : ∃ r15 : Rs, r15 = uI r8 50 (rI r 5 (rI r 31 l3.toNatClampNeg).toNatClampNeg).toNatClampNeg (l2 + 1) := ⟨_, rfl⟩
          replace hv := hv r15 er15
          rw [← er15] at hw16
          refine e_iinc (pc := 118) (v := l3 + 1) (lv' := [(0, vR m), (2, vI l2), (3, vI (l3 + 1)), (4, vI (rI r 5 (rI r 31 l3.toNatClampNeg).toNatClampNeg)), (5, vI (rI r 5 (rI r 32 l3.toNatClampNeg).toNatClampNeg))]) dX11_measure_118 rfl rfl (by decide) rfl ?_
          refine e_goto (pc := 121) (tgt := 44) dX11_measure_121 (by decide) ?_
          exact EJ.drop [0, 2, 3] rfl (hv w16 hw16)
set_option maxRecDepth 100000 in
set_option maxHeartbeats 4000000 in
theorem rX11_measure_34 (X : Cx) (w0 : Wd) (m : Nat) (hS : Sh w0 m) (A : Rs → Prop) (l2 : Int32) (r : Rs)
    (hv : (((sS r 30) ≤ l2) → A r) ∧ ((¬ (sS r 30) ≤ l2) → iX11_measure_44 X w0 m A l2 1 r)) :
    iX11_measure_34 X w0 m A l2 r := by
  intro w hW
  refine e_iload_n (pc := 34) (i := 2) dX11_measure_34 rfl rfl ?_
  refine e_aload_n (pc := 35) (i := 0) dX11_measure_35 rfl rfl ?_
  refine n_getS (pc := 36) hS hW 30 dX11_measure_36 fRX11_169 rfl ?_
  refine e_icmp_ge (pc := 39) (tgt := 130) dX11_measure_39 (by decide) (fun h1 => ?_) (fun h1 => ?_)
  · replace hv := hv.1 h1
    exact e_vreturn (pc := 130) dX11_measure_130 rfl ⟨r, hW, rfl, hv⟩
  · replace hv := hv.2 h1
    refine e_iconst (pc := 42) (v := 1) dX11_measure_42 (by decide) ?_
    refine e_istore_n (pc := 43) (i := 3) (lv' := [(0, vR m), (2, vI l2), (3, vI 1)]) dX11_measure_43 rfl (by decide) rfl ?_
    exact hv w hW
set_option maxRecDepth 100000 in
set_option maxHeartbeats 4000000 in
theorem rX11_measure_2 (X : Cx) (w0 : Wd) (m : Nat) (hS : Sh w0 m) (A : Rs → Prop) (l1 : Int32) (l2 : Int32) (r : Rs)
    (hv : (((sS r 30) < l2) → iX11_measure_34 X w0 m A 0 r) ∧ ((¬ (sS r 30) < l2) → ((¬ l2 = l1) → vp_in l2 301 ∧ ∀ r4 : Rs, r4 = uI r 50 l2.toNatClampNeg (-1) → iX11_measure_2 X w0 m A l1 (l2 + 1) r4) ∧ ((l2 = l1) → vp_in l2 301 ∧ ∀ r7 : Rs, r7 = uI r 50 l2.toNatClampNeg 0 → iX11_measure_2 X w0 m A l1 (l2 + 1) r7))) :
    iX11_measure_2 X w0 m A l1 l2 r := by
  intro w hW
  refine e_iload_n (pc := 2) (i := 2) dX11_measure_2 rfl rfl ?_
  refine e_aload_n (pc := 3) (i := 0) dX11_measure_3 rfl rfl ?_
  refine n_getS (pc := 4) hS hW 30 dX11_measure_4 fRX11_169 rfl ?_
  refine e_icmp_gt (pc := 7) (tgt := 32) dX11_measure_7 (by decide) (fun h1 => ?_) (fun h1 => ?_)
  · replace hv := hv.1 h1
    refine e_iconst (pc := 32) (v := 0) dX11_measure_32 (by decide) ?_
    refine e_istore_n (pc := 33) (i := 2) (lv' := [(0, vR m), (1, vI l1), (2, vI 0)]) dX11_measure_33 rfl (by decide) rfl ?_
    exact EJ.drop [0, 2] rfl (hv w hW)
  · replace hv := hv.2 h1
    refine e_aload_n (pc := 10) (i := 0) dX11_measure_10 rfl rfl ?_
    refine n_get (pc := 11) hS hW 50 dX11_measure_11 fRX11_130 rfl ?_
    refine e_iload_n (pc := 14) (i := 2) dX11_measure_14 rfl rfl ?_
    refine e_iload_n (pc := 15) (i := 2) dX11_measure_15 rfl rfl ?_
    refine e_iload_n (pc := 16) (i := 1) dX11_measure_16 rfl rfl ?_
    refine e_icmp_ne (pc := 17) (tgt := 24) dX11_measure_17 (by decide) (fun h2 => ?_) (fun h2 => ?_)
    · replace hv := hv.1 h2
      refine e_iconst (pc := 24) (v := (-1)) dX11_measure_24 (by decide) ?_
      have hi3 : vp_in l2 301 := hv.1
      replace hv := hv.2
      refine n_iast (pc := 25) (wa := w) hS hW 50 dX11_measure_25 (by decide) rfl hi3 rfl (fun w5 hw5 => ?_)
      obtain ⟨r4, er4⟩ : ∃ r4 : Rs, r4 = uI r 50 l2.toNatClampNeg (-1) := ⟨_, rfl⟩
      replace hv := hv r4 er4
      rw [← er4] at hw5
      refine e_iinc (pc := 26) (v := l2 + 1) (lv' := [(0, vR m), (1, vI l1), (2, vI (l2 + 1))]) dX11_measure_26 rfl rfl (by decide) rfl ?_
      refine e_goto (pc := 29) (tgt := 2) dX11_measure_29 (by decide) ?_
      exact hv w5 hw5
    · replace hv := hv.2 h2
      refine e_iconst (pc := 20) (v := 0) dX11_measure_20 (by decide) ?_
      refine e_goto (pc := 21) (tgt := 25) dX11_measure_21 (by decide) ?_
      have hi6 : vp_in l2 301 := hv.1
      replace hv := hv.2
      refine n_iast (pc := 25) (wa := w) hS hW 50 dX11_measure_25 (by decide) rfl hi6 rfl (fun w8 hw8 => ?_)
      obtain ⟨r7, er7⟩ : ∃ r7 : Rs, r7 = uI r 50 l2.toNatClampNeg 0 := ⟨_, rfl⟩
      replace hv := hv r7 er7
      rw [← er7] at hw8
      refine e_iinc (pc := 26) (v := l2 + 1) (lv' := [(0, vR m), (1, vI l1), (2, vI (l2 + 1))]) dX11_measure_26 rfl rfl (by decide) rfl ?_
      refine e_goto (pc := 29) (tgt := 2) dX11_measure_29 (by decide) ?_
      exact hv w8 hw8
set_option maxRecDepth 100000 in
set_option maxHeartbeats 4000000 in
theorem pX11_measure (X : Cx) (w0 : Wd) (m : Nat) (hS : Sh w0 m) (A : Rs → Prop) (a1 : Int32) (r : Rs)
    (hv : iX11_measure_2 X w0 m A a1 1 r) :
    CM X w0 m bX11_measure mX11_measure [vI a1] r (pV A) := by
  intro w hW
  refine Ct.of (Q := qM w0 m (pV A)) (lv := [(0, vR m), (1, vI a1)]) rfl (Nat.le_of_ble_eq_true rfl) rfl ?_
  refine e_iconst (pc := 0) (v := 1) dX11_measure_0 (by decide) ?_
  refine e_istore_n (pc := 1) (i := 2) (lv' := [(0, vR m), (1, vI a1), (2, vI 1)]) dX11_measure_1 rfl (by decide) rfl ?_
  exact hv w hW
abbrev iX11_draw_14 (X : Cx) (w0 : Wd) (m : Nat) (A : Rs → Prop) (l1 : Int32) (l3 : Int32) (r : Rs) : Prop := ∀ w, Wm w0 m r w → EJ X mX11_draw (vw X bX11_draw (qM w0 m (pV A))) 0 0 14 [(0, vR m), (1, vI l1), (3, vI l3)] [] w
abbrev iX11_draw_48 (X : Cx) (w0 : Wd) (m : Nat) (A : Rs → Prop) (l1 : Int32) (l3 : Int32) (l4 : Int32) (l5 : Int32) (r : Rs) : Prop := ∀ w, Wm w0 m r w → EJ X mX11_draw (vw X bX11_draw (qM w0 m (pV A))) 0 0 48 [(0, vR m), (1, vI l1), (3, vI l3), (4, vI l4), (5, vI l5)] [] w
set_option maxRecDepth 100000 in
set_option maxHeartbeats 4000000 in
theorem rX11_draw_48 (X : Cx) (w0 : Wd) (m : Nat) (hS : Sh w0 m) (A : Rs → Prop) (l1 : Int32) (l3 : Int32) (l4 : Int32) (l5 : Int32) (r : Rs)
    (hv : ((l5 ≤ 0) → vp_in l4 101 ∧ vp_in (rI r 32 l4.toNatClampNeg) 301 ∧ iX11_draw_14 X w0 m A l1 (rI r 5 (rI r 32 l4.toNatClampNeg).toNatClampNeg) r) ∧ ((¬ l5 ≤ 0) → CM X w0 m bX11_isUndone mX11_isUndone [vI l5] r (pI fun x4 r6 => ((¬ x4 = 0) → (((0 : Int32) = 0) → iX11_draw_48 X w0 m A l1 l3 l4 (l5 + (-1)) r6) ∧ ((¬ (0 : Int32) = 0) → iX11_draw_48 X w0 m A l1 l3 l5 (l5 + (-1)) r6)) ∧ ((x4 = 0) → vp_in l5 101 ∧ vp_in (rI r6 31 l5.toNatClampNeg) 301 ∧ ((¬ (rI r6 5 (rI r6 31 l5.toNatClampNeg).toNatClampNeg) = l3) → (((0 : Int32) = 0) → iX11_draw_48 X w0 m A l1 l3 l4 (l5 + (-1)) r6) ∧ ((¬ (0 : Int32) = 0) → iX11_draw_48 X w0 m A l1 l3 l5 (l5 + (-1)) r6)) ∧ (((rI r6 5 (rI r6 31 l5.toNatClampNeg).toNatClampNeg) = l3) → vp_in l5 101 ∧ vp_in (rI r6 32 l5.toNatClampNeg) 301 ∧ vp_in (rI r6 5 (rI r6 32 l5.toNatClampNeg).toNatClampNeg) 301 ∧ vp_in l3 301 ∧ ((¬ (rI r6 50 (rI r6 5 (rI r6 32 l5.toNatClampNeg).toNatClampNeg).toNatClampNeg) = ((rI r6 50 l3.toNatClampNeg) - 1)) → (((0 : Int32) = 0) → iX11_draw_48 X w0 m A l1 l3 l4 (l5 + (-1)) r6) ∧ ((¬ (0 : Int32) = 0) → iX11_draw_48 X w0 m A l1 l3 l5 (l5 + (-1)) r6)) ∧ (((rI r6 50 (rI r6 5 (rI r6 32 l5.toNatClampNeg).toNatClampNeg).toNatClampNeg) = ((rI r6 50 l3.toNatClampNeg) - 1)) → (((1 : Int32) = 0) → iX11_draw_48 X w0 m A l1 l3 l4 (l5 + (-1)) r6) ∧ ((¬ (1 : Int32) = 0) → iX11_draw_48 X w0 m A l1 l3 l5 (l5 + (-1)) r6))))))) :
    iX11_draw_48 X w0 m A l1 l3 l4 l5 r := by
  intro w hW
  refine e_iload (pc := 48) (i := 5) dX11_draw_48 rfl ?_
  refine e_if_le (pc := 50) (tgt := 133) dX11_draw_50 (by decide) (fun h1 => ?_) (fun h1 => ?_)
  · replace hv := hv.1 h1
    refine e_aload_n (pc := 133) (i := 0) dX11_draw_133 rfl rfl ?_
    refine n_get (pc := 134) hS hW 5 dX11_draw_134 fRX11_23 rfl ?_
    refine e_aload_n (pc := 137) (i := 0) dX11_draw_137 rfl rfl ?_
    refine n_get (pc := 138) hS hW 32 dX11_draw_138 fRX11_102 rfl ?_
    refine e_iload (pc := 141) (i := 4) dX11_draw_141 rfl ?_
    have hi2 : vp_in l4 101 := hv.1
    replace hv := hv.2
    refine n_iald (pc := 143) (wa := w) hS hW 32 dX11_draw_143 (by decide) rfl hi2 rfl ?_
    have hi3 : vp_in (rI r 32 l4.toNatClampNeg) 301 := hv.1
    replace hv := hv.2
    refine n_iald (pc := 144) (wa := w) hS hW 5 dX11_draw_144 (by decide) rfl hi3 rfl ?_
    refine e_istore_n (pc := 145) (i := 3) (lv' := [(0, vR m), (1, vI l1), (3, vI (rI r 5 (rI r 32 l4.toNatClampNeg).toNatClampNeg)), (4, vI l4), (5, vI l5)]) dX11_draw_145 rfl (by decide) rfl ?_
    refine e_goto (pc := 146) (tgt := 14) dX11_draw_146 (by decide) ?_
    exact EJ.drop [0, 1, 3] rfl (hv w hW)
  · replace hv := hv.2 h1
    refine e_aload_n (pc := 53) (i := 0) dX11_draw_53 rfl rfl ?_
    refine e_iload (pc := 54) (i := 5) dX11_draw_54 rfl ?_
    refine e_callV (pc := 56) (ci := 11) (st := []) (rc' := 0) (rs' := 0) (B' := bX11_isUndone) [vI l5] dX11_draw_56 vRX11_278 kX11_isUndone (by decide) rfl (hW.K hS) rfl rfl (Nat.le_of_ble_eq_true rfl) ⟨Nat.le_of_ble_eq_true rfl, Nat.le_of_ble_eq_true rfl⟩ rfl rfl (hv w hW) (fun zx4 w5 hq => ?_)
    obtain ⟨r6, hw5, x4, ex4, hv⟩ := hq
    subst ex4
    show EJ X mX11_draw _ 0 0 _ _ (vI x4 :: []) w5
    refine e_if_ne (pc := 59) (tgt := 110) dX11_draw_59 (by decide) (fun h7 => ?_) (fun h7 => ?_)
    · replace hv := hv.1 h7
      refine e_iconst (pc := 110) (v := 0) dX11_draw_110 (by decide) ?_
      refine e_istore (pc := 111) (i := 6) (lv' := [(0, vR m), (1, vI l1), (3, vI l3), (4, vI l4), (5, vI l5), (6, vI 0)]) dX11_draw_111 (by decide) rfl ?_
      refine e_iload (pc := 113) (i := 6) dX11_draw_113 rfl ?_
      refine e_if_eq (pc := 115) (tgt := 123) dX11_draw_115 (by decide) (fun h8 => ?_) (fun h8 => ?_)
      · replace hv := hv.1 h8
        refine e_iload (pc := 123) (i := 4) dX11_draw_123 rfl ?_
        refine e_istore (pc := 125) (i := 4) (lv' := [(0, vR m), (1, vI l1), (3, vI l3), (4, vI l4), (5, vI l5), (6, vI 0)]) dX11_draw_125 (by decide) rfl ?_
        refine e_iinc (pc := 127) (v := l5 + (-1)) (lv' := [(0, vR m), (1, vI l1), (3, vI l3), (4, vI l4), (5, vI (l5 + (-1))), (6, vI 0)]) dX11_draw_127 rfl rfl (by decide) rfl ?_
        refine e_goto (pc := 130) (tgt := 48) dX11_draw_130 (by decide) ?_
        exact EJ.drop [0, 1, 3, 4, 5] rfl (hv w5 hw5)
      · replace hv := hv.2 h8
        refine e_iload (pc := 118) (i := 5) dX11_draw_118 rfl ?_
        refine e_goto (pc := 120) (tgt := 125) dX11_draw_120 (by decide) ?_
        refine e_istore (pc := 125) (i := 4) (lv' := [(0, vR m), (1, vI l1), (3, vI l3), (4, vI l5), (5, vI l5), (6, vI 0)]) dX11_draw_125 (by decide) rfl ?_
        refine e_iinc (pc := 127) (v := l5 + (-1)) (lv' := [(0, vR m), (1, vI l1), (3, vI l3), (4, vI l5), (5, vI (l5 + (-1))), (6, vI 0)]) dX11_draw_127 rfl rfl (by decide) rfl ?_
        refine e_goto (pc := 130) (tgt := 48) dX11_draw_130 (by decide) ?_
        exact EJ.drop [0, 1, 3, 4, 5] rfl (hv w5 hw5)
    · replace hv := hv.2 h7
      refine e_aload_n (pc := 62) (i := 0) dX11_draw_62 rfl rfl ?_
      refine n_get (pc := 63) hS hw5 5 dX11_draw_63 fRX11_23 rfl ?_
      refine e_aload_n (pc := 66) (i := 0) dX11_draw_66 rfl rfl ?_
      refine n_get (pc := 67) hS hw5 31 dX11_draw_67 fRX11_99 rfl ?_
      refine e_iload (pc := 70) (i := 5) dX11_draw_70 rfl ?_
      have hi9 : vp_in l5 101 := hv.1
      replace hv := hv.2
      refine n_iald (pc := 72) (wa := w5) hS hw5 31 dX11_draw_72 (by decide) rfl hi9 rfl ?_
      have hi10 : vp_in (rI r6 31 l5.toNatClampNeg) 301 := hv.1
      replace hv := hv.2
      refine n_iald (pc := 73) (wa := w5) hS hw5 5 dX11_draw_73 (by decide) rfl hi10 rfl ?_
      refine e_iload_n (pc := 74) (i := 3) dX11_draw_74 rfl rfl ?_
      refine e_icmp_ne (pc := 75) (tgt := 110) dX11_draw_75 (by decide) (fun h11 => ?_) (fun h11 => ?_)
      · replace hv := hv.1 h11
        refine e_iconst (pc := 110) (v := 0) dX11_draw_110 (by decide) ?_
        refine e_istore (pc := 111) (i := 6) (lv' := [(0, vR m), (1, vI l1), (3, vI l3), (4, vI l4), (5, vI l5), (6, vI 0)]) dX11_draw_111 (by decide) rfl ?_
        refine e_iload (pc := 113) (i := 6) dX11_draw_113 rfl ?_
        refine e_if_eq (pc := 115) (tgt := 123) dX11_draw_115 (by decide) (fun h12 => ?_) (fun h12 => ?_)
        · replace hv := hv.1 h12
          refine e_iload (pc := 123) (i := 4) dX11_draw_123 rfl ?_
          refine e_istore (pc := 125) (i := 4) (lv' := [(0, vR m), (1, vI l1), (3, vI l3), (4, vI l4), (5, vI l5), (6, vI 0)]) dX11_draw_125 (by decide) rfl ?_
          refine e_iinc (pc := 127) (v := l5 + (-1)) (lv' := [(0, vR m), (1, vI l1), (3, vI l3), (4, vI l4), (5, vI (l5 + (-1))), (6, vI 0)]) dX11_draw_127 rfl rfl (by decide) rfl ?_
          refine e_goto (pc := 130) (tgt := 48) dX11_draw_130 (by decide) ?_
          exact EJ.drop [0, 1, 3, 4, 5] rfl (hv w5 hw5)
        · replace hv := hv.2 h12
          refine e_iload (pc := 118) (i := 5) dX11_draw_118 rfl ?_
          refine e_goto (pc := 120) (tgt := 125) dX11_draw_120 (by decide) ?_
          refine e_istore (pc := 125) (i := 4) (lv' := [(0, vR m), (1, vI l1), (3, vI l3), (4, vI l5), (5, vI l5), (6, vI 0)]) dX11_draw_125 (by decide) rfl ?_
          refine e_iinc (pc := 127) (v := l5 + (-1)) (lv' := [(0, vR m), (1, vI l1), (3, vI l3), (4, vI l5), (5, vI (l5 + (-1))), (6, vI 0)]) dX11_draw_127 rfl rfl (by decide) rfl ?_
          refine e_goto (pc := 130) (tgt := 48) dX11_draw_130 (by decide) ?_
          exact EJ.drop [0, 1, 3, 4, 5] rfl (hv w5 hw5)
      · replace hv := hv.2 h11
        refine e_aload_n (pc := 78) (i := 0) dX11_draw_78 rfl rfl ?_
        refine n_get (pc := 79) hS hw5 50 dX11_draw_79 fRX11_130 rfl ?_
        refine e_aload_n (pc := 82) (i := 0) dX11_draw_82 rfl rfl ?_
        refine n_get (pc := 83) hS hw5 5 dX11_draw_83 fRX11_23 rfl ?_
        refine e_aload_n (pc := 86) (i := 0) dX11_draw_86 rfl rfl ?_
        refine n_get (pc := 87) hS hw5 32 dX11_draw_87 fRX11_102 rfl ?_
        refine e_iload (pc := 90) (i := 5) dX11_draw_90 rfl ?_
        have hi13 : vp_in l5 101 := hv.1
        replace hv := hv.2
        refine n_iald (pc := 92) (wa := w5) hS hw5 32 dX11_draw_92 (by decide) rfl hi13 rfl ?_
        have hi14 : vp_in (rI r6 32 l5.toNatClampNeg) 301 := hv.1
        replace hv := hv.2
        refine n_iald (pc := 93) (wa := w5) hS hw5 5 dX11_draw_93 (by decide) rfl hi14 rfl ?_
        have hi15 : vp_in (rI r6 5 (rI r6 32 l5.toNatClampNeg).toNatClampNeg) 301 := hv.1
        replace hv := hv.2
        refine n_iald (pc := 94) (wa := w5) hS hw5 50 dX11_draw_94 (by decide) rfl hi15 rfl ?_
        refine e_aload_n (pc := 95) (i := 0) dX11_draw_95 rfl rfl ?_
        refine n_get (pc := 96) hS hw5 50 dX11_draw_96 fRX11_130 rfl ?_
        refine e_iload_n (pc := 99) (i := 3) dX11_draw_99 rfl rfl ?_
        have hi16 : vp_in l3 301 := hv.1
        replace hv := hv.2
        refine n_iald (pc := 100) (wa := w5) hS hw5 50 dX11_draw_100 (by decide) rfl hi16 rfl ?_
        refine e_iconst (pc := 101) (v := 1) dX11_draw_101 (by decide) ?_
        refine e_isub (pc := 102) dX11_draw_102 ?_
        refine e_icmp_ne (pc := 103) (tgt := 110) dX11_draw_103 (by decide) (fun h17 => ?_) (fun h17 => ?_)
        · replace hv := hv.1 h17
          refine e_iconst (pc := 110) (v := 0) dX11_draw_110 (by decide) ?_
          refine e_istore (pc := 111) (i := 6) (lv' := [(0, vR m), (1, vI l1), (3, vI l3), (4, vI l4), (5, vI l5), (6, vI 0)]) dX11_draw_111 (by decide) rfl ?_
          refine e_iload (pc := 113) (i := 6) dX11_draw_113 rfl ?_
          refine e_if_eq (pc := 115) (tgt := 123) dX11_draw_115 (by decide) (fun h18 => ?_) (fun h18 => ?_)
          · replace hv := hv.1 h18
            refine e_iload (pc := 123) (i := 4) dX11_draw_123 rfl ?_
            refine e_istore (pc := 125) (i := 4) (lv' := [(0, vR m), (1, vI l1), (3, vI l3), (4, vI l4), (5, vI l5), (6, vI 0)]) dX11_draw_125 (by decide) rfl ?_
            refine e_iinc (pc := 127) (v := l5 + (-1)) (lv' := [(0, vR m), (1, vI l1), (3, vI l3), (4, vI l4), (5, vI (l5 + (-1))), (6, vI 0)]) dX11_draw_127 rfl rfl (by decide) rfl ?_
            refine e_goto (pc := 130) (tgt := 48) dX11_draw_130 (by decide) ?_
            exact EJ.drop [0, 1, 3, 4, 5] rfl (hv w5 hw5)
          · replace hv := hv.2 h18
            refine e_iload (pc := 118) (i := 5) dX11_draw_118 rfl ?_
            refine e_goto (pc := 120) (tgt := 125) dX11_draw_120 (by decide) ?_
            refine e_istore (pc := 125) (i := 4) (lv' := [(0, vR m), (1, vI l1), (3, vI l3), (4, vI l5), (5, vI l5), (6, vI 0)]) dX11_draw_125 (by decide) rfl ?_
            refine e_iinc (pc := 127) (v := l5 + (-1)) (lv' := [(0, vR m), (1, vI l1), (3, vI l3), (4, vI l5), (5, vI (l5 + (-1))), (6, vI 0)]) dX11_draw_127 rfl rfl (by decide) rfl ?_
            refine e_goto (pc := 130) (tgt := 48) dX11_draw_130 (by decide) ?_
            exact EJ.drop [0, 1, 3, 4, 5] rfl (hv w5 hw5)
        · replace hv := hv.2 h17
          refine e_iconst (pc := 106) (v := 1) dX11_draw_106 (by decide) ?_
          refine e_goto (pc := 107) (tgt := 111) dX11_draw_107 (by decide) ?_
          refine e_istore (pc := 111) (i := 6) (lv' := [(0, vR m), (1, vI l1), (3, vI l3), (4, vI l4), (5, vI l5), (6, vI 1)]) dX11_draw_111 (by decide) rfl ?_
          refine e_iload (pc := 113) (i := 6) dX11_draw_113 rfl ?_
          refine e_if_eq (pc := 115) (tgt := 123) dX11_draw_115 (by decide) (fun h19 => ?_) (fun h19 => ?_)
          · replace hv := hv.1 h19
            refine e_iload (pc := 123) (i := 4) dX11_draw_123 rfl ?_
            refine e_istore (pc := 125) (i := 4) (lv' := [(0, vR m), (1, vI l1), (3, vI l3), (4, vI l4), (5, vI l5), (6, vI 1)]) dX11_draw_125 (by decide) rfl ?_
            refine e_iinc (pc := 127) (v := l5 + (-1)) (lv' := [(0, vR m), (1, vI l1), (3, vI l3), (4, vI l4), (5, vI (l5 + (-1))), (6, vI 1)]) dX11_draw_127 rfl rfl (by decide) rfl ?_
            refine e_goto (pc := 130) (tgt := 48) dX11_draw_130 (by decide) ?_
            exact EJ.drop [0, 1, 3, 4, 5] rfl (hv w5 hw5)
          · replace hv := hv.2 h19
            refine e_iload (pc := 118) (i := 5) dX11_draw_118 rfl ?_
            refine e_goto (pc := 120) (tgt := 125) dX11_draw_120 (by decide) ?_
            refine e_istore (pc := 125) (i := 4) (lv' := [(0, vR m), (1, vI l1), (3, vI l3), (4, vI l5), (5, vI l5), (6, vI 1)]) dX11_draw_125 (by decide) rfl ?_
            refine e_iinc (pc := 127) (v := l5 + (-1)) (lv' := [(0, vR m), (1, vI l1), (3, vI l3), (4, vI l5), (5, vI (l5 + (-1))), (6, vI 1)]) dX11_draw_127 rfl rfl (by decide) rfl ?_
            refine e_goto (pc := 130) (tgt := 48) dX11_draw_130 (by decide) ?_
            exact EJ.drop [0, 1, 3, 4, 5] rfl (hv w5 hw5)
set_option maxRecDepth 100000 in
set_option maxHeartbeats 4000000 in
theorem rX11_draw_14 (X : Cx) (w0 : Wd) (m : Nat) (hS : Sh w0 m) (A : Rs → Prop) (l1 : Int32) (l3 : Int32) (r : Rs)
    (hv : ((l3 = l1) → A r) ∧ ((¬ l3 = l1) → vp_in (sS r 52) 301 ∧ ∀ r3 : Rs, r3 = uI r 51 (sS r 52).toNatClampNeg l3 → ∀ r5 : Rs, r5 = uS r3 52 ((sS r3 52) + 1) → iX11_draw_48 X w0 m A l1 l3 0 (sS r5 38) r5)) :
    iX11_draw_14 X w0 m A l1 l3 r := by
  intro w hW
  refine e_iload_n (pc := 14) (i := 3) dX11_draw_14 rfl rfl ?_
  refine e_iload_n (pc := 15) (i := 1) dX11_draw_15 rfl rfl ?_
  refine e_icmp_eq (pc := 16) (tgt := 149) dX11_draw_16 (by decide) (fun h1 => ?_) (fun h1 => ?_)
  · replace hv := hv.1 h1
    exact e_vreturn (pc := 149) dX11_draw_149 rfl ⟨r, hW, rfl, hv⟩
  · replace hv := hv.2 h1
    refine e_aload_n (pc := 19) (i := 0) dX11_draw_19 rfl rfl ?_
    refine n_get (pc := 20) hS hW 51 dX11_draw_20 fRX11_133 rfl ?_
    refine e_aload_n (pc := 23) (i := 0) dX11_draw_23 rfl rfl ?_
    refine n_getS (pc := 24) hS hW 52 dX11_draw_24 fRX11_281 rfl ?_
    refine e_iload_n (pc := 27) (i := 3) dX11_draw_27 rfl rfl ?_
    have hi2 : vp_in (sS r 52) 301 := hv.1
    replace hv := hv.2
    refine n_iast (pc := 28) (wa := w) hS hW 51 dX11_draw_28 (by decide) rfl hi2 rfl (fun w4 hw4 => ?_)
    obtain ⟨r3, er3⟩ : ∃ r3 : Rs, r3 = uI r 51 (sS r 52).toNatClampNeg l3 := ⟨_, rfl⟩
    replace hv := hv r3 er3
    rw [← er3] at hw4
    refine e_aload_n (pc := 29) (i := 0) dX11_draw_29 rfl rfl ?_
    refine e_dup (pc := 30) dX11_draw_30 rfl ?_
    refine n_getS (pc := 31) hS hw4 52 dX11_draw_31 fRX11_281 rfl ?_
    refine e_iconst (pc := 34) (v := 1) dX11_draw_34 (by decide) ?_
    refine e_iadd (pc := 35) dX11_draw_35 ?_
    refine n_putS (pc := 36) hS hw4 52 dX11_draw_36 fRX11_281 rfl rfl (fun w6 hw6 => ?_)
    obtain ⟨r5, er5⟩ : ∃ r5 : Rs, r5 = uS r3 52 ((sS r3 52) + 1) := ⟨_, rfl⟩
    replace hv := hv r5 er5
    rw [← er5] at hw6
    refine e_iconst (pc := 39) (v := 0) dX11_draw_39 (by decide) ?_
    refine e_istore (pc := 40) (i := 4) (lv' := [(0, vR m), (1, vI l1), (3, vI l3), (4, vI 0)]) dX11_draw_40 (by decide) rfl ?_
    refine e_aload_n (pc := 42) (i := 0) dX11_draw_42 rfl rfl ?_
    refine n_getS (pc := 43) hS hw6 38 dX11_draw_43 fRX11_275 rfl ?_
    refine e_istore (pc := 46) (i := 5) (lv' := [(0, vR m), (1, vI l1), (3, vI l3), (4, vI 0), (5, vI (sS r5 38))]) dX11_draw_46 (by decide) rfl ?_
    exact hv w6 hw6
set_option maxRecDepth 100000 in
set_option maxHeartbeats 4000000 in
theorem pX11_draw (X : Cx) (w0 : Wd) (m : Nat) (hS : Sh w0 m) (A : Rs → Prop) (a1 : Int32) (a2 : Int32) (r : Rs)
    (hv : vp_in 0 301 ∧ ∀ r2 : Rs, r2 = uI r 51 (0 : Int32).toNatClampNeg a1 → ∀ r4 : Rs, r4 = uS r2 52 1 → iX11_draw_14 X w0 m A a1 a2 r4) :
    CM X w0 m bX11_draw mX11_draw [vI a1, vI a2] r (pV A) := by
  intro w hW
  refine Ct.of (Q := qM w0 m (pV A)) (lv := [(0, vR m), (1, vI a1), (2, vI a2)]) rfl (Nat.le_of_ble_eq_true rfl) rfl ?_
  refine e_aload_n (pc := 0) (i := 0) dX11_draw_0 rfl rfl ?_
  refine n_get (pc := 1) hS hW 51 dX11_draw_1 fRX11_133 rfl ?_
  refine e_iconst (pc := 4) (v := 0) dX11_draw_4 (by decide) ?_
  refine e_iload_n (pc := 5) (i := 1) dX11_draw_5 rfl rfl ?_
  have hi1 : vp_in 0 301 := hv.1
  replace hv := hv.2
  refine n_iast (pc := 6) (wa := w) hS hW 51 dX11_draw_6 (by decide) rfl hi1 rfl (fun w3 hw3 => ?_)
  obtain ⟨r2, er2⟩ : ∃ r2 : Rs, r2 = uI r 51 (0 : Int32).toNatClampNeg a1 := ⟨_, rfl⟩
  replace hv := hv r2 er2
  rw [← er2] at hw3
  refine e_aload_n (pc := 7) (i := 0) dX11_draw_7 rfl rfl ?_
  refine e_iconst (pc := 8) (v := 1) dX11_draw_8 (by decide) ?_
  refine n_putS (pc := 9) hS hw3 52 dX11_draw_9 fRX11_281 rfl rfl (fun w5 hw5 => ?_)
  obtain ⟨r4, er4⟩ : ∃ r4 : Rs, r4 = uS r2 52 1 := ⟨_, rfl⟩
  replace hv := hv r4 er4
  rw [← er4] at hw5
  refine e_iload_n (pc := 12) (i := 2) dX11_draw_12 rfl rfl ?_
  refine e_istore_n (pc := 13) (i := 3) (lv' := [(0, vR m), (1, vI a1), (2, vI a2), (3, vI a2)]) dX11_draw_13 rfl (by decide) rfl ?_
  exact EJ.drop [0, 1, 3] rfl (hv w5 hw5)
set_option maxRecDepth 100000 in
set_option maxHeartbeats 4000000 in
theorem pX11_post (X : Cx) (w0 : Wd) (m : Nat) (hS : Sh w0 m) (A : Int32 → Rs → Prop) (a1 : Int32) (a2 : Int32) (a3 : Int64) (r : Rs)
    (hv : CM X w0 m bX11_isEntry mX11_isEntry [vI a1] r (pI fun x1 r3 => ((x1 = 0) → CM X w0 m bX11_refuse mX11_refuse [vI 1] r3 (pI fun x5 r7 => A x5 r7)) ∧ ((¬ x1 = 0) → CM X w0 m bX11_isEntry mX11_isEntry [vI a2] r3 (pI fun x8 r10 => ((¬ x8 = 0) → vp_in a1 301 ∧ (((rI r10 3 a1.toNatClampNeg) = 6) → CM X w0 m bX11_refuse mX11_refuse [vI 4] r10 (pI fun x14 r16 => A x14 r16)) ∧ ((¬ (rI r10 3 a1.toNatClampNeg) = 6) → vp_in a2 301 ∧ ((¬ (rI r10 3 a2.toNatClampNeg) = 6) → (((lg_cmp a3 0) < 0) → CM X w0 m bX11_refuse mX11_refuse [vI 5] r10 (pI fun x20 r22 => A x20 r22)) ∧ ((¬ (lg_cmp a3 0) < 0) → ((0 < (lg_cmp a3 999999999999)) → CM X w0 m bX11_refuse mX11_refuse [vI 5] r10 (pI fun x24 r26 => A x24 r26)) ∧ ((¬ 0 < (lg_cmp a3 999999999999)) → vp_in a1 301 ∧ vp_in a2 301 ∧ ((¬ (rI r10 5 a1.toNatClampNeg) = (rI r10 5 a2.toNatClampNeg)) → CM X w0 m bX11_livesNow mX11_livesNow [vI a1] r10 (pI fun x30 r32 => ((x30 = 0) → CM X w0 m bX11_refuse mX11_refuse [vI 6] r32 (pI fun x34 r36 => A x34 r36)) ∧ ((¬ x30 = 0) → CM X w0 m bX11_lives mX11_lives [vI a2] r32 (pI fun x37 r39 => ((x37 = 0) → CM X w0 m bX11_refuse mX11_refuse [vI 6] r39 (pI fun x41 r43 => A x41 r43)) ∧ ((¬ x37 = 0) → vp_in a1 301 ∧ vp_in a2 301 ∧ (((rI r39 4 a1.toNatClampNeg) = (rI r39 4 a2.toNatClampNeg)) → vp_in a1 301 ∧ CM X w0 m bX11_measure mX11_measure [vI (rI r39 5 a1.toNatClampNeg)] r39 (pV fun r50 => vp_in a2 301 ∧ vp_in (rI r50 5 a2.toNatClampNeg) 301 ∧ (((rI r50 50 (rI r50 5 a2.toNatClampNeg).toNatClampNeg) = (-1)) → ((¬ (sS r50 38) = 100) → ∀ r55 : Rs, r55 = uS r50 38 ((sS r50 38) + 1) → vp_in (sS r55 38) 101 ∧ ∀ r58 : Rs, r58 = uI r55 31 (sS r55 38).toNatClampNeg a1 → vp_in (sS r58 38) 101 ∧ ∀ r61 : Rs, r61 = uI r58 32 (sS r58 38).toNatClampNeg a2 → vp_in (sS r61 38) 101 ∧ ∀ r64 : Rs, r64 = uJ r61 33 (sS r61 38).toNatClampNeg a3 → CM X w0 m bX11_dateNow mX11_dateNow [] r64 (pI fun x66 r68 => vp_in (sS r64 38) 101 ∧ ∀ r70 : Rs, r70 = uI r68 34 (sS r64 38).toNatClampNeg x66 → vp_in (sS r70 38) 101 ∧ ∀ r73 : Rs, r73 = uI r70 35 (sS r70 38).toNatClampNeg (sS r70 39) → vp_in (sS r73 38) 101 ∧ ∀ r76 : Rs, r76 = uI r73 37 (sS r73 38).toNatClampNeg (-1) → ∀ r78 : Rs, r78 = uS r76 41 0 → A (sS r78 38) r78)) ∧ (((sS r50 38) = 100) → CM X w0 m bX11_refuse mX11_refuse [vI 10] r50 (pI fun x80 r82 => A x80 r82))) ∧ ((¬ (rI r50 50 (rI r50 5 a2.toNatClampNeg).toNatClampNeg) = (-1)) → vp_in a1 301 ∧ vp_in a2 301 ∧ CM X w0 m bX11_draw mX11_draw [vI (rI r50 5 a1.toNatClampNeg), vI (rI r50 5 a2.toNatClampNeg)] r50 (pV fun r87 => ∀ r88 : Rs, r88 = uS r87 44 ((sS r87 44) + 1) → CM X w0 m bX11_refuse mX11_refuse [vI 9] r88 (pI fun x90 r92 => A x90 r92))))) ∧ ((¬ (rI r39 4 a1.toNatClampNeg) = (rI r39 4 a2.toNatClampNeg)) → CM X w0 m bX11_refuse mX11_refuse [vI 6] r39 (pI fun x93 r95 => A x93 r95))))))) ∧ (((rI r10 5 a1.toNatClampNeg) = (rI r10 5 a2.toNatClampNeg)) → CM X w0 m bX11_refuse mX11_refuse [vI 5] r10 (pI fun x96 r98 => A x96 r98))))) ∧ (((rI r10 3 a2.toNatClampNeg) = 6) → CM X w0 m bX11_refuse mX11_refuse [vI 4] r10 (pI fun x99 r101 => A x99 r101)))) ∧ ((x8 = 0) → CM X w0 m bX11_refuse mX11_refuse [vI 1] r10 (pI fun x102 r104 => A x102 r104)))))) :
    CM X w0 m bX11_post mX11_post [vI a1, vI a2, vJ a3] r (pI A) := by
  intro w hW
  refine Ct.of (Q := qM w0 m (pI A)) (lv := [(0, vR m), (1, vI a1), (2, vI a2), (3, vJ a3)]) rfl (Nat.le_of_ble_eq_true rfl) rfl ?_
  refine e_aload_n (pc := 0) (i := 0) dX11_post_0 rfl rfl ?_
  refine e_iload_n (pc := 1) (i := 1) dX11_post_1 rfl rfl ?_
  refine e_callV (pc := 2) (ci := 11) (st := []) (rc' := 0) (rs' := 0) (B' := bX11_isEntry) [vI a1] dX11_post_2 vRX11_224 kX11_isEntry (by decide) rfl (hW.K hS) rfl rfl (Nat.le_of_ble_eq_true rfl) ⟨Nat.le_of_ble_eq_true rfl, Nat.le_of_ble_eq_true rfl⟩ rfl rfl (hv w hW) (fun zx1 w2 hq => ?_)
  obtain ⟨r3, hw2, x1, ex1, hv⟩ := hq
  subst ex1
  show EJ X mX11_post _ 0 0 _ _ (vI x1 :: []) w2
  refine e_if_eq (pc := 5) (tgt := 16) dX11_post_5 (by decide) (fun h4 => ?_) (fun h4 => ?_)
  · replace hv := hv.1 h4
    refine e_aload_n (pc := 16) (i := 0) dX11_post_16 rfl rfl ?_
    refine e_iconst (pc := 17) (v := 1) dX11_post_17 (by decide) ?_
    refine e_callV (pc := 18) (ci := 11) (st := []) (rc' := 0) (rs' := 0) (B' := bX11_refuse) [vI 1] dX11_post_18 vRX11_231 kX11_refuse (by decide) rfl (hw2.K hS) rfl rfl (Nat.le_of_ble_eq_true rfl) ⟨Nat.le_of_ble_eq_true rfl, Nat.le_of_ble_eq_true rfl⟩ rfl rfl (hv w2 hw2) (fun zx5 w6 hq => ?_)
    obtain ⟨r7, hw6, x5, ex5, hv⟩ := hq
    subst ex5
    show EJ X mX11_post _ 0 0 _ _ (vI x5 :: []) w6
    exact e_ireturn (pc := 21) dX11_post_21 rfl ⟨r7, hw6, _, rfl, hv⟩
  · replace hv := hv.2 h4
    refine e_aload_n (pc := 8) (i := 0) dX11_post_8 rfl rfl ?_
    refine e_iload_n (pc := 9) (i := 2) dX11_post_9 rfl rfl ?_
    refine e_callV (pc := 10) (ci := 11) (st := []) (rc' := 0) (rs' := 0) (B' := bX11_isEntry) [vI a2] dX11_post_10 vRX11_224 kX11_isEntry (by decide) rfl (hw2.K hS) rfl rfl (Nat.le_of_ble_eq_true rfl) ⟨Nat.le_of_ble_eq_true rfl, Nat.le_of_ble_eq_true rfl⟩ rfl rfl (hv w2 hw2) (fun zx8 w9 hq => ?_)
    obtain ⟨r10, hw9, x8, ex8, hv⟩ := hq
    subst ex8
    show EJ X mX11_post _ 0 0 _ _ (vI x8 :: []) w9
    refine e_if_ne (pc := 13) (tgt := 22) dX11_post_13 (by decide) (fun h11 => ?_) (fun h11 => ?_)
    · replace hv := hv.1 h11
      refine e_aload_n (pc := 22) (i := 0) dX11_post_22 rfl rfl ?_
      refine n_get (pc := 23) hS hw9 3 dX11_post_23 fRX11_17 rfl ?_
      refine e_iload_n (pc := 26) (i := 1) dX11_post_26 rfl rfl ?_
      have hi12 : vp_in a1 301 := hv.1
      replace hv := hv.2
      refine n_iald (pc := 27) (wa := w9) hS hw9 3 dX11_post_27 (by decide) rfl hi12 rfl ?_
      refine e_bipush (pc := 28) (v := 6) dX11_post_28 (by decide) ?_
      refine e_icmp_eq (pc := 30) (tgt := 44) dX11_post_30 (by decide) (fun h13 => ?_) (fun h13 => ?_)
      · replace hv := hv.1 h13
        refine e_aload_n (pc := 44) (i := 0) dX11_post_44 rfl rfl ?_
        refine e_iconst (pc := 45) (v := 4) dX11_post_45 (by decide) ?_
        refine e_callV (pc := 46) (ci := 11) (st := []) (rc' := 0) (rs' := 0) (B' := bX11_refuse) [vI 4] dX11_post_46 vRX11_231 kX11_refuse (by decide) rfl (hw9.K hS) rfl rfl (Nat.le_of_ble_eq_true rfl) ⟨Nat.le_of_ble_eq_true rfl, Nat.le_of_ble_eq_true rfl⟩ rfl rfl (hv w9 hw9) (fun zx14 w15 hq => ?_)
        obtain ⟨r16, hw15, x14, ex14, hv⟩ := hq
        subst ex14
        show EJ X mX11_post _ 0 0 _ _ (vI x14 :: []) w15
        exact e_ireturn (pc := 49) dX11_post_49 rfl ⟨r16, hw15, _, rfl, hv⟩
      · replace hv := hv.2 h13
        refine e_aload_n (pc := 33) (i := 0) dX11_post_33 rfl rfl ?_
        refine n_get (pc := 34) hS hw9 3 dX11_post_34 fRX11_17 rfl ?_
        refine e_iload_n (pc := 37) (i := 2) dX11_post_37 rfl rfl ?_
        have hi17 : vp_in a2 301 := hv.1
        replace hv := hv.2
        refine n_iald (pc := 38) (wa := w9) hS hw9 3 dX11_post_38 (by decide) rfl hi17 rfl ?_
        refine e_bipush (pc := 39) (v := 6) dX11_post_39 (by decide) ?_
        refine e_icmp_ne (pc := 41) (tgt := 50) dX11_post_41 (by decide) (fun h18 => ?_) (fun h18 => ?_)
        · replace hv := hv.1 h18
          refine e_lload_n (pc := 50) (i := 3) dX11_post_50 rfl rfl ?_
          refine e_lconst (pc := 51) (v := 0) dX11_post_51 (by decide) ?_
          refine e_lcmp (pc := 52) dX11_post_52 ?_
          refine e_if_lt (pc := 53) (tgt := 79) dX11_post_53 (by decide) (fun h19 => ?_) (fun h19 => ?_)
          · replace hv := hv.1 h19
            refine e_aload_n (pc := 79) (i := 0) dX11_post_79 rfl rfl ?_
            refine e_iconst (pc := 80) (v := 5) dX11_post_80 (by decide) ?_
            refine e_callV (pc := 81) (ci := 11) (st := []) (rc' := 0) (rs' := 0) (B' := bX11_refuse) [vI 5] dX11_post_81 vRX11_231 kX11_refuse (by decide) rfl (hw9.K hS) rfl rfl (Nat.le_of_ble_eq_true rfl) ⟨Nat.le_of_ble_eq_true rfl, Nat.le_of_ble_eq_true rfl⟩ rfl rfl (hv w9 hw9) (fun zx20 w21 hq => ?_)
            obtain ⟨r22, hw21, x20, ex20, hv⟩ := hq
            subst ex20
            show EJ X mX11_post _ 0 0 _ _ (vI x20 :: []) w21
            exact e_ireturn (pc := 84) dX11_post_84 rfl ⟨r22, hw21, _, rfl, hv⟩
          · replace hv := hv.2 h19
            refine e_lload_n (pc := 56) (i := 3) dX11_post_56 rfl rfl ?_
            refine e_ldc2 (pc := 57) (v := 999999999999) dX11_post_57 (tb_a5 176 (by decide +kernel) rfl) ?_
            refine e_lcmp (pc := 60) dX11_post_60 ?_
            refine e_if_gt (pc := 61) (tgt := 79) dX11_post_61 (by decide) (fun h23 => ?_) (fun h23 => ?_)
            · replace hv := hv.1 h23
              refine e_aload_n (pc := 79) (i := 0) dX11_post_79 rfl rfl ?_
              refine e_iconst (pc := 80) (v := 5) dX11_post_80 (by decide) ?_
              refine e_callV (pc := 81) (ci := 11) (st := []) (rc' := 0) (rs' := 0) (B' := bX11_refuse) [vI 5] dX11_post_81 vRX11_231 kX11_refuse (by decide) rfl (hw9.K hS) rfl rfl (Nat.le_of_ble_eq_true rfl) ⟨Nat.le_of_ble_eq_true rfl, Nat.le_of_ble_eq_true rfl⟩ rfl rfl (hv w9 hw9) (fun zx24 w25 hq => ?_)
              obtain ⟨r26, hw25, x24, ex24, hv⟩ := hq
              subst ex24
              show EJ X mX11_post _ 0 0 _ _ (vI x24 :: []) w25
              exact e_ireturn (pc := 84) dX11_post_84 rfl ⟨r26, hw25, _, rfl, hv⟩
            · replace hv := hv.2 h23
              refine e_aload_n (pc := 64) (i := 0) dX11_post_64 rfl rfl ?_
              refine n_get (pc := 65) hS hw9 5 dX11_post_65 fRX11_23 rfl ?_
              refine e_iload_n (pc := 68) (i := 1) dX11_post_68 rfl rfl ?_
              have hi27 : vp_in a1 301 := hv.1
              replace hv := hv.2
              refine n_iald (pc := 69) (wa := w9) hS hw9 5 dX11_post_69 (by decide) rfl hi27 rfl ?_
              refine e_aload_n (pc := 70) (i := 0) dX11_post_70 rfl rfl ?_
              refine n_get (pc := 71) hS hw9 5 dX11_post_71 fRX11_23 rfl ?_
              refine e_iload_n (pc := 74) (i := 2) dX11_post_74 rfl rfl ?_
              have hi28 : vp_in a2 301 := hv.1
              replace hv := hv.2
              refine n_iald (pc := 75) (wa := w9) hS hw9 5 dX11_post_75 (by decide) rfl hi28 rfl ?_
              refine e_icmp_ne (pc := 76) (tgt := 85) dX11_post_76 (by decide) (fun h29 => ?_) (fun h29 => ?_)
              · replace hv := hv.1 h29
                refine e_aload_n (pc := 85) (i := 0) dX11_post_85 rfl rfl ?_
                refine e_iload_n (pc := 86) (i := 1) dX11_post_86 rfl rfl ?_
                refine e_callV (pc := 87) (ci := 11) (st := []) (rc' := 0) (rs' := 0) (B' := bX11_livesNow) [vI a1] dX11_post_87 vRX11_260 kX11_livesNow (by decide) rfl (hw9.K hS) rfl rfl (Nat.le_of_ble_eq_true rfl) ⟨Nat.le_of_ble_eq_true rfl, Nat.le_of_ble_eq_true rfl⟩ rfl rfl (hv w9 hw9) (fun zx30 w31 hq => ?_)
                obtain ⟨r32, hw31, x30, ex30, hv⟩ := hq
                subst ex30
                show EJ X mX11_post _ 0 0 _ _ (vI x30 :: []) w31
                refine e_if_eq (pc := 90) (tgt := 116) dX11_post_90 (by decide) (fun h33 => ?_) (fun h33 => ?_)
                · replace hv := hv.1 h33
                  refine e_aload_n (pc := 116) (i := 0) dX11_post_116 rfl rfl ?_
                  refine e_bipush (pc := 117) (v := 6) dX11_post_117 (by decide) ?_
                  refine e_callV (pc := 119) (ci := 11) (st := []) (rc' := 0) (rs' := 0) (B' := bX11_refuse) [vI 6] dX11_post_119 vRX11_231 kX11_refuse (by decide) rfl (hw31.K hS) rfl rfl (Nat.le_of_ble_eq_true rfl) ⟨Nat.le_of_ble_eq_true rfl, Nat.le_of_ble_eq_true rfl⟩ rfl rfl (hv w31 hw31) (fun zx34 w35 hq => ?_)
                  obtain ⟨r36, hw35, x34, ex34, hv⟩ := hq
                  subst ex34
                  show EJ X mX11_post _ 0 0 _ _ (vI x34 :: []) w35
                  exact e_ireturn (pc := 122) dX11_post_122 rfl ⟨r36, hw35, _, rfl, hv⟩
                · replace hv := hv.2 h33
                  refine e_aload_n (pc := 93) (i := 0) dX11_post_93 rfl rfl ?_
                  refine e_iload_n (pc := 94) (i := 2) dX11_post_94 rfl rfl ?_
                  refine e_callV (pc := 95) (ci := 11) (st := []) (rc' := 0) (rs' := 0) (B' := bX11_lives) [vI a2] dX11_post_95 vRX11_195 kX11_lives (by decide) rfl (hw31.K hS) rfl rfl (Nat.le_of_ble_eq_true rfl) ⟨Nat.le_of_ble_eq_true rfl, Nat.le_of_ble_eq_true rfl⟩ rfl rfl (hv w31 hw31) (fun zx37 w38 hq => ?_)
                  obtain ⟨r39, hw38, x37, ex37, hv⟩ := hq
                  subst ex37
                  show EJ X mX11_post _ 0 0 _ _ (vI x37 :: []) w38
                  refine e_if_eq (pc := 98) (tgt := 116) dX11_post_98 (by decide) (fun h40 => ?_) (fun h40 => ?_)
                  · replace hv := hv.1 h40
                    refine e_aload_n (pc := 116) (i := 0) dX11_post_116 rfl rfl ?_
                    refine e_bipush (pc := 117) (v := 6) dX11_post_117 (by decide) ?_
                    refine e_callV (pc := 119) (ci := 11) (st := []) (rc' := 0) (rs' := 0) (B' := bX11_refuse) [vI 6] dX11_post_119 vRX11_231 kX11_refuse (by decide) rfl (hw38.K hS) rfl rfl (Nat.le_of_ble_eq_true rfl) ⟨Nat.le_of_ble_eq_true rfl, Nat.le_of_ble_eq_true rfl⟩ rfl rfl (hv w38 hw38) (fun zx41 w42 hq => ?_)
                    obtain ⟨r43, hw42, x41, ex41, hv⟩ := hq
                    subst ex41
                    show EJ X mX11_post _ 0 0 _ _ (vI x41 :: []) w42
                    exact e_ireturn (pc := 122) dX11_post_122 rfl ⟨r43, hw42, _, rfl, hv⟩
                  · replace hv := hv.2 h40
                    refine e_aload_n (pc := 101) (i := 0) dX11_post_101 rfl rfl ?_
                    refine n_get (pc := 102) hS hw38 4 dX11_post_102 fRX11_20 rfl ?_
                    refine e_iload_n (pc := 105) (i := 1) dX11_post_105 rfl rfl ?_
                    have hi44 : vp_in a1 301 := hv.1
                    replace hv := hv.2
                    refine n_iald (pc := 106) (wa := w38) hS hw38 4 dX11_post_106 (by decide) rfl hi44 rfl ?_
                    refine e_aload_n (pc := 107) (i := 0) dX11_post_107 rfl rfl ?_
                    refine n_get (pc := 108) hS hw38 4 dX11_post_108 fRX11_20 rfl ?_
                    refine e_iload_n (pc := 111) (i := 2) dX11_post_111 rfl rfl ?_
                    have hi45 : vp_in a2 301 := hv.1
                    replace hv := hv.2
                    refine n_iald (pc := 112) (wa := w38) hS hw38 4 dX11_post_112 (by decide) rfl hi45 rfl ?_
                    refine e_icmp_eq (pc := 113) (tgt := 123) dX11_post_113 (by decide) (fun h46 => ?_) (fun h46 => ?_)
                    · replace hv := hv.1 h46
                      refine e_aload_n (pc := 123) (i := 0) dX11_post_123 rfl rfl ?_
                      refine e_aload_n (pc := 124) (i := 0) dX11_post_124 rfl rfl ?_
                      refine n_get (pc := 125) hS hw38 5 dX11_post_125 fRX11_23 rfl ?_
                      refine e_iload_n (pc := 128) (i := 1) dX11_post_128 rfl rfl ?_
                      have hi47 : vp_in a1 301 := hv.1
                      replace hv := hv.2
                      refine n_iald (pc := 129) (wa := w38) hS hw38 5 dX11_post_129 (by decide) rfl hi47 rfl ?_
                      refine e_callV (pc := 130) (ci := 11) (st := []) (rc' := 0) (rs' := 0) (B' := bX11_measure) [vI (rI r39 5 a1.toNatClampNeg)] dX11_post_130 vRX11_284 kX11_measure (by decide) rfl (hw38.K hS) rfl rfl (Nat.le_of_ble_eq_true rfl) ⟨Nat.le_of_ble_eq_true rfl, Nat.le_of_ble_eq_true rfl⟩ rfl rfl (hv w38 hw38) (fun zx48 w49 hq => ?_)
                      obtain ⟨r50, hw49, ex48, hv⟩ := hq
                      subst ex48
                      show EJ X mX11_post _ 0 0 _ _ [] w49
                      refine e_aload_n (pc := 133) (i := 0) dX11_post_133 rfl rfl ?_
                      refine n_get (pc := 134) hS hw49 50 dX11_post_134 fRX11_130 rfl ?_
                      refine e_aload_n (pc := 137) (i := 0) dX11_post_137 rfl rfl ?_
                      refine n_get (pc := 138) hS hw49 5 dX11_post_138 fRX11_23 rfl ?_
                      refine e_iload_n (pc := 141) (i := 2) dX11_post_141 rfl rfl ?_
                      have hi51 : vp_in a2 301 := hv.1
                      replace hv := hv.2
                      refine n_iald (pc := 142) (wa := w49) hS hw49 5 dX11_post_142 (by decide) rfl hi51 rfl ?_
                      have hi52 : vp_in (rI r50 5 a2.toNatClampNeg) 301 := hv.1
                      replace hv := hv.2
                      refine n_iald (pc := 143) (wa := w49) hS hw49 50 dX11_post_143 (by decide) rfl hi52 rfl ?_
                      refine e_iconst (pc := 144) (v := (-1)) dX11_post_144 (by decide) ?_
                      refine e_icmp_eq (pc := 145) (tgt := 181) dX11_post_145 (by decide) (fun h53 => ?_) (fun h53 => ?_)
                      · replace hv := hv.1 h53
                        refine e_aload_n (pc := 181) (i := 0) dX11_post_181 rfl rfl ?_
                        refine n_getS (pc := 182) hS hw49 38 dX11_post_182 fRX11_275 rfl ?_
                        refine e_bipush (pc := 185) (v := 100) dX11_post_185 (by decide) ?_
                        refine e_icmp_ne (pc := 187) (tgt := 197) dX11_post_187 (by decide) (fun h54 => ?_) (fun h54 => ?_)
                        · replace hv := hv.1 h54
                          refine e_aload_n (pc := 197) (i := 0) dX11_post_197 rfl rfl ?_
                          refine e_dup (pc := 198) dX11_post_198 rfl ?_
                          refine n_getS (pc := 199) hS hw49 38 dX11_post_199 fRX11_275 rfl ?_
                          refine e_iconst (pc := 202) (v := 1) dX11_post_202 (by decide) ?_
                          refine e_iadd (pc := 203) dX11_post_203 ?_
                          refine n_putS (pc := 204) hS hw49 38 dX11_post_204 fRX11_275 rfl rfl (fun w56 hw56 => ?_)
                          obtain ⟨r55, er55⟩ : ∃ r55 : Rs, r55 = uS r50 38 ((sS r50 38) + 1) := ⟨_, rfl⟩
                          replace hv := hv r55 er55
                          rw [← er55] at hw56
                          refine e_aload_n (pc := 207) (i := 0) dX11_post_207 rfl rfl ?_
                          refine n_get (pc := 208) hS hw56 31 dX11_post_208 fRX11_99 rfl ?_
                          refine e_aload_n (pc := 211) (i := 0) dX11_post_211 rfl rfl ?_
                          refine n_getS (pc := 212) hS hw56 38 dX11_post_212 fRX11_275 rfl ?_
                          refine e_iload_n (pc := 215) (i := 1) dX11_post_215 rfl rfl ?_
                          have hi57 : vp_in (sS r55 38) 101 := hv.1
                          replace hv := hv.2
                          refine n_iast (pc := 216) (wa := w56) hS hw56 31 dX11_post_216 (by decide) rfl hi57 rfl (fun w59 hw59 => ?_)
                          obtain ⟨r58, er58⟩ : ∃ r58 : Rs, r58 = uI r55 31 (sS r55 38).toNatClampNeg a1 := ⟨_, rfl⟩
                          replace hv := hv r58 er58
                          rw [← er58] at hw59
                          refine e_aload_n (pc := 217) (i := 0) dX11_post_217 rfl rfl ?_
                          refine n_get (pc := 218) hS hw59 32 dX11_post_218 fRX11_102 rfl ?_
                          refine e_aload_n (pc := 221) (i := 0) dX11_post_221 rfl rfl ?_
                          refine n_getS (pc := 222) hS hw59 38 dX11_post_222 fRX11_275 rfl ?_
                          refine e_iload_n (pc := 225) (i := 2) dX11_post_225 rfl rfl ?_
                          have hi60 : vp_in (sS r58 38) 101 := hv.1
                          replace hv := hv.2
                          refine n_iast (pc := 226) (wa := w59) hS hw59 32 dX11_post_226 (by decide) rfl hi60 rfl (fun w62 hw62 => ?_)
                          obtain ⟨r61, er61⟩ : ∃ r61 : Rs, r61 = uI r58 32 (sS r58 38).toNatClampNeg a2 := ⟨_, rfl⟩
                          replace hv := hv r61 er61
                          rw [← er61] at hw62
                          refine e_aload_n (pc := 227) (i := 0) dX11_post_227 rfl rfl ?_
                          refine n_get (pc := 228) hS hw62 33 dX11_post_228 fRX11_105 rfl ?_
                          refine e_aload_n (pc := 231) (i := 0) dX11_post_231 rfl rfl ?_
                          refine n_getS (pc := 232) hS hw62 38 dX11_post_232 fRX11_275 rfl ?_
                          refine e_lload_n (pc := 235) (i := 3) dX11_post_235 rfl rfl ?_
                          have hi63 : vp_in (sS r61 38) 101 := hv.1
                          replace hv := hv.2
                          refine n_last (pc := 236) (wa := w62) hS hw62 33 dX11_post_236 (by decide) rfl hi63 rfl (fun w65 hw65 => ?_)
                          obtain ⟨r64, er64⟩ : ∃ r64 : Rs, r64 = uJ r61 33 (sS r61 38).toNatClampNeg a3 := ⟨_, rfl⟩
                          replace hv := hv r64 er64
                          rw [← er64] at hw65
                          refine e_aload_n (pc := 237) (i := 0) dX11_post_237 rfl rfl ?_
                          refine n_get (pc := 238) hS hw65 34 dX11_post_238 fRX11_108 rfl ?_
                          refine e_aload_n (pc := 241) (i := 0) dX11_post_241 rfl rfl ?_
                          refine n_getS (pc := 242) hS hw65 38 dX11_post_242 fRX11_275 rfl ?_
                          refine e_aload_n (pc := 245) (i := 0) dX11_post_245 rfl rfl ?_
                          refine e_callV (pc := 246) (ci := 11) (st := [vI (sS r64 38), vR (wR w65 11 34 m)]) (rc' := 0) (rs' := 0) (B' := bX11_dateNow) [] dX11_post_246 vRX11_252 kX11_dateNow (by decide) rfl (hw65.K hS) rfl rfl (Nat.le_of_ble_eq_true rfl) ⟨Nat.le_of_ble_eq_true rfl, Nat.le_of_ble_eq_true rfl⟩ rfl rfl (hv w65 hw65) (fun zx66 w67 hq => ?_)
                          obtain ⟨r68, hw67, x66, ex66, hv⟩ := hq
                          subst ex66
                          show EJ X mX11_post _ 0 0 _ _ (vI x66 :: [vI (sS r64 38), vR (wR w65 11 34 m)]) w67
                          have hi69 : vp_in (sS r64 38) 101 := hv.1
                          replace hv := hv.2
                          refine n_iast (pc := 249) (wa := w65) hS hw67 34 dX11_post_249 (by decide) rfl hi69 (Wm.same hw65 hw67) (fun w71 hw71 => ?_)
                          obtain ⟨r70, er70⟩ : ∃ r70 : Rs, r70 = uI r68 34 (sS r64 38).toNatClampNeg x66 := ⟨_, rfl⟩
                          replace hv := hv r70 er70
                          rw [← er70] at hw71
                          refine e_aload_n (pc := 250) (i := 0) dX11_post_250 rfl rfl ?_
                          refine n_get (pc := 251) hS hw71 35 dX11_post_251 fRX11_111 rfl ?_
                          refine e_aload_n (pc := 254) (i := 0) dX11_post_254 rfl rfl ?_
                          refine n_getS (pc := 255) hS hw71 38 dX11_post_255 fRX11_275 rfl ?_
                          refine e_aload_n (pc := 258) (i := 0) dX11_post_258 rfl rfl ?_
                          refine n_getS (pc := 259) hS hw71 39 dX11_post_259 fRX11_166 rfl ?_
                          have hi72 : vp_in (sS r70 38) 101 := hv.1
                          replace hv := hv.2
                          refine n_iast (pc := 262) (wa := w71) hS hw71 35 dX11_post_262 (by decide) rfl hi72 rfl (fun w74 hw74 => ?_)
                          obtain ⟨r73, er73⟩ : ∃ r73 : Rs, r73 = uI r70 35 (sS r70 38).toNatClampNeg (sS r70 39) := ⟨_, rfl⟩
                          replace hv := hv r73 er73
                          rw [← er73] at hw74
                          refine e_aload_n (pc := 263) (i := 0) dX11_post_263 rfl rfl ?_
                          refine n_get (pc := 264) hS hw74 37 dX11_post_264 fRX11_117 rfl ?_
                          refine e_aload_n (pc := 267) (i := 0) dX11_post_267 rfl rfl ?_
                          refine n_getS (pc := 268) hS hw74 38 dX11_post_268 fRX11_275 rfl ?_
                          refine e_iconst (pc := 271) (v := (-1)) dX11_post_271 (by decide) ?_
                          have hi75 : vp_in (sS r73 38) 101 := hv.1
                          replace hv := hv.2
                          refine n_iast (pc := 272) (wa := w74) hS hw74 37 dX11_post_272 (by decide) rfl hi75 rfl (fun w77 hw77 => ?_)
                          obtain ⟨r76, er76⟩ : ∃ r76 : Rs, r76 = uI r73 37 (sS r73 38).toNatClampNeg (-1) := ⟨_, rfl⟩
                          replace hv := hv r76 er76
                          rw [← er76] at hw77
                          refine e_aload_n (pc := 273) (i := 0) dX11_post_273 rfl rfl ?_
                          refine e_iconst (pc := 274) (v := 0) dX11_post_274 (by decide) ?_
                          refine n_putS (pc := 275) hS hw77 41 dX11_post_275 fRX11_163 rfl rfl (fun w79 hw79 => ?_)
                          obtain ⟨r78, er78⟩ : ∃ r78 : Rs, r78 = uS r76 41 0 := ⟨_, rfl⟩
                          replace hv := hv r78 er78
                          rw [← er78] at hw79
                          refine e_aload_n (pc := 278) (i := 0) dX11_post_278 rfl rfl ?_
                          refine n_getS (pc := 279) hS hw79 38 dX11_post_279 fRX11_275 rfl ?_
                          exact e_ireturn (pc := 282) dX11_post_282 rfl ⟨r78, hw79, _, rfl, hv⟩
                        · replace hv := hv.2 h54
                          refine e_aload_n (pc := 190) (i := 0) dX11_post_190 rfl rfl ?_
                          refine e_bipush (pc := 191) (v := 10) dX11_post_191 (by decide) ?_
                          refine e_callV (pc := 193) (ci := 11) (st := []) (rc' := 0) (rs' := 0) (B' := bX11_refuse) [vI 10] dX11_post_193 vRX11_231 kX11_refuse (by decide) rfl (hw49.K hS) rfl rfl (Nat.le_of_ble_eq_true rfl) ⟨Nat.le_of_ble_eq_true rfl, Nat.le_of_ble_eq_true rfl⟩ rfl rfl (hv w49 hw49) (fun zx80 w81 hq => ?_)
                          obtain ⟨r82, hw81, x80, ex80, hv⟩ := hq
                          subst ex80
                          show EJ X mX11_post _ 0 0 _ _ (vI x80 :: []) w81
                          exact e_ireturn (pc := 196) dX11_post_196 rfl ⟨r82, hw81, _, rfl, hv⟩
                      · replace hv := hv.2 h53
                        refine e_aload_n (pc := 148) (i := 0) dX11_post_148 rfl rfl ?_
                        refine e_aload_n (pc := 149) (i := 0) dX11_post_149 rfl rfl ?_
                        refine n_get (pc := 150) hS hw49 5 dX11_post_150 fRX11_23 rfl ?_
                        refine e_iload_n (pc := 153) (i := 1) dX11_post_153 rfl rfl ?_
                        have hi83 : vp_in a1 301 := hv.1
                        replace hv := hv.2
                        refine n_iald (pc := 154) (wa := w49) hS hw49 5 dX11_post_154 (by decide) rfl hi83 rfl ?_
                        refine e_aload_n (pc := 155) (i := 0) dX11_post_155 rfl rfl ?_
                        refine n_get (pc := 156) hS hw49 5 dX11_post_156 fRX11_23 rfl ?_
                        refine e_iload_n (pc := 159) (i := 2) dX11_post_159 rfl rfl ?_
                        have hi84 : vp_in a2 301 := hv.1
                        replace hv := hv.2
                        refine n_iald (pc := 160) (wa := w49) hS hw49 5 dX11_post_160 (by decide) rfl hi84 rfl ?_
                        refine e_callV (pc := 161) (ci := 11) (st := []) (rc' := 0) (rs' := 0) (B' := bX11_draw) [vI (rI r50 5 a1.toNatClampNeg), vI (rI r50 5 a2.toNatClampNeg)] dX11_post_161 vRX11_287 kX11_draw (by decide) rfl (hw49.K hS) rfl rfl (Nat.le_of_ble_eq_true rfl) ⟨Nat.le_of_ble_eq_true rfl, Nat.le_of_ble_eq_true rfl⟩ rfl rfl (hv w49 hw49) (fun zx85 w86 hq => ?_)
                        obtain ⟨r87, hw86, ex85, hv⟩ := hq
                        subst ex85
                        show EJ X mX11_post _ 0 0 _ _ [] w86
                        refine e_aload_n (pc := 164) (i := 0) dX11_post_164 rfl rfl ?_
                        refine e_dup (pc := 165) dX11_post_165 rfl ?_
                        refine n_getS (pc := 166) hS hw86 44 dX11_post_166 fRX11_290 rfl ?_
                        refine e_iconst (pc := 169) (v := 1) dX11_post_169 (by decide) ?_
                        refine e_iadd (pc := 170) dX11_post_170 ?_
                        refine n_putS (pc := 171) hS hw86 44 dX11_post_171 fRX11_290 rfl rfl (fun w89 hw89 => ?_)
                        obtain ⟨r88, er88⟩ : ∃ r88 : Rs, r88 = uS r87 44 ((sS r87 44) + 1) := ⟨_, rfl⟩
                        replace hv := hv r88 er88
                        rw [← er88] at hw89
                        refine e_aload_n (pc := 174) (i := 0) dX11_post_174 rfl rfl ?_
                        refine e_bipush (pc := 175) (v := 9) dX11_post_175 (by decide) ?_
                        refine e_callV (pc := 177) (ci := 11) (st := []) (rc' := 0) (rs' := 0) (B' := bX11_refuse) [vI 9] dX11_post_177 vRX11_231 kX11_refuse (by decide) rfl (hw89.K hS) rfl rfl (Nat.le_of_ble_eq_true rfl) ⟨Nat.le_of_ble_eq_true rfl, Nat.le_of_ble_eq_true rfl⟩ rfl rfl (hv w89 hw89) (fun zx90 w91 hq => ?_)
                        obtain ⟨r92, hw91, x90, ex90, hv⟩ := hq
                        subst ex90
                        show EJ X mX11_post _ 0 0 _ _ (vI x90 :: []) w91
                        exact e_ireturn (pc := 180) dX11_post_180 rfl ⟨r92, hw91, _, rfl, hv⟩
                    · replace hv := hv.2 h46
                      refine e_aload_n (pc := 116) (i := 0) dX11_post_116 rfl rfl ?_
                      refine e_bipush (pc := 117) (v := 6) dX11_post_117 (by decide) ?_
                      refine e_callV (pc := 119) (ci := 11) (st := []) (rc' := 0) (rs' := 0) (B' := bX11_refuse) [vI 6] dX11_post_119 vRX11_231 kX11_refuse (by decide) rfl (hw38.K hS) rfl rfl (Nat.le_of_ble_eq_true rfl) ⟨Nat.le_of_ble_eq_true rfl, Nat.le_of_ble_eq_true rfl⟩ rfl rfl (hv w38 hw38) (fun zx93 w94 hq => ?_)
                      obtain ⟨r95, hw94, x93, ex93, hv⟩ := hq
                      subst ex93
                      show EJ X mX11_post _ 0 0 _ _ (vI x93 :: []) w94
                      exact e_ireturn (pc := 122) dX11_post_122 rfl ⟨r95, hw94, _, rfl, hv⟩
              · replace hv := hv.2 h29
                refine e_aload_n (pc := 79) (i := 0) dX11_post_79 rfl rfl ?_
                refine e_iconst (pc := 80) (v := 5) dX11_post_80 (by decide) ?_
                refine e_callV (pc := 81) (ci := 11) (st := []) (rc' := 0) (rs' := 0) (B' := bX11_refuse) [vI 5] dX11_post_81 vRX11_231 kX11_refuse (by decide) rfl (hw9.K hS) rfl rfl (Nat.le_of_ble_eq_true rfl) ⟨Nat.le_of_ble_eq_true rfl, Nat.le_of_ble_eq_true rfl⟩ rfl rfl (hv w9 hw9) (fun zx96 w97 hq => ?_)
                obtain ⟨r98, hw97, x96, ex96, hv⟩ := hq
                subst ex96
                show EJ X mX11_post _ 0 0 _ _ (vI x96 :: []) w97
                exact e_ireturn (pc := 84) dX11_post_84 rfl ⟨r98, hw97, _, rfl, hv⟩
        · replace hv := hv.2 h18
          refine e_aload_n (pc := 44) (i := 0) dX11_post_44 rfl rfl ?_
          refine e_iconst (pc := 45) (v := 4) dX11_post_45 (by decide) ?_
          refine e_callV (pc := 46) (ci := 11) (st := []) (rc' := 0) (rs' := 0) (B' := bX11_refuse) [vI 4] dX11_post_46 vRX11_231 kX11_refuse (by decide) rfl (hw9.K hS) rfl rfl (Nat.le_of_ble_eq_true rfl) ⟨Nat.le_of_ble_eq_true rfl, Nat.le_of_ble_eq_true rfl⟩ rfl rfl (hv w9 hw9) (fun zx99 w100 hq => ?_)
          obtain ⟨r101, hw100, x99, ex99, hv⟩ := hq
          subst ex99
          show EJ X mX11_post _ 0 0 _ _ (vI x99 :: []) w100
          exact e_ireturn (pc := 49) dX11_post_49 rfl ⟨r101, hw100, _, rfl, hv⟩
    · replace hv := hv.2 h11
      refine e_aload_n (pc := 16) (i := 0) dX11_post_16 rfl rfl ?_
      refine e_iconst (pc := 17) (v := 1) dX11_post_17 (by decide) ?_
      refine e_callV (pc := 18) (ci := 11) (st := []) (rc' := 0) (rs' := 0) (B' := bX11_refuse) [vI 1] dX11_post_18 vRX11_231 kX11_refuse (by decide) rfl (hw9.K hS) rfl rfl (Nat.le_of_ble_eq_true rfl) ⟨Nat.le_of_ble_eq_true rfl, Nat.le_of_ble_eq_true rfl⟩ rfl rfl (hv w9 hw9) (fun zx102 w103 hq => ?_)
      obtain ⟨r104, hw103, x102, ex102, hv⟩ := hq
      subst ex102
      show EJ X mX11_post _ 0 0 _ _ (vI x102 :: []) w103
      exact e_ireturn (pc := 21) dX11_post_21 rfl ⟨r104, hw103, _, rfl, hv⟩
set_option maxRecDepth 100000 in
set_option maxHeartbeats 4000000 in
theorem pX11_circle (X : Cx) (w0 : Wd) (m : Nat) (hS : Sh w0 m) (A : Int32 → Rs → Prop) (a1 : Int32) (r : Rs)
    (hv : ((a1 < 0) → A (-1) r) ∧ ((¬ a1 < 0) → ((a1 < (sS r 52)) → vp_in a1 301 ∧ A (rI r 51 a1.toNatClampNeg) r) ∧ ((¬ a1 < (sS r 52)) → A (-1) r))) :
    CM X w0 m bX11_circle mX11_circle [vI a1] r (pI A) := by
  intro w hW
  refine Ct.of (Q := qM w0 m (pI A)) (lv := [(0, vR m), (1, vI a1)]) rfl (Nat.le_of_ble_eq_true rfl) rfl ?_
  refine e_iload_n (pc := 0) (i := 1) dX11_circle_0 rfl rfl ?_
  refine e_if_lt (pc := 1) (tgt := 12) dX11_circle_1 (by decide) (fun h1 => ?_) (fun h1 => ?_)
  · replace hv := hv.1 h1
    refine e_iconst (pc := 12) (v := (-1)) dX11_circle_12 (by decide) ?_
    refine e_goto (pc := 13) (tgt := 22) dX11_circle_13 (by decide) ?_
    exact e_ireturn (pc := 22) dX11_circle_22 rfl ⟨r, hW, _, rfl, hv⟩
  · replace hv := hv.2 h1
    refine e_iload_n (pc := 4) (i := 1) dX11_circle_4 rfl rfl ?_
    refine e_aload_n (pc := 5) (i := 0) dX11_circle_5 rfl rfl ?_
    refine n_getS (pc := 6) hS hW 52 dX11_circle_6 fRX11_281 rfl ?_
    refine e_icmp_lt (pc := 9) (tgt := 16) dX11_circle_9 (by decide) (fun h2 => ?_) (fun h2 => ?_)
    · replace hv := hv.1 h2
      refine e_aload_n (pc := 16) (i := 0) dX11_circle_16 rfl rfl ?_
      refine n_get (pc := 17) hS hW 51 dX11_circle_17 fRX11_133 rfl ?_
      refine e_iload_n (pc := 20) (i := 1) dX11_circle_20 rfl rfl ?_
      have hi3 : vp_in a1 301 := hv.1
      replace hv := hv.2
      refine n_iald (pc := 21) (wa := w) hS hW 51 dX11_circle_21 (by decide) rfl hi3 rfl ?_
      exact e_ireturn (pc := 22) dX11_circle_22 rfl ⟨r, hW, _, rfl, hv⟩
    · replace hv := hv.2 h2
      refine e_iconst (pc := 12) (v := (-1)) dX11_circle_12 (by decide) ?_
      refine e_goto (pc := 13) (tgt := 22) dX11_circle_13 (by decide) ?_
      exact e_ireturn (pc := 22) dX11_circle_22 rfl ⟨r, hW, _, rfl, hv⟩
set_option maxRecDepth 100000 in
set_option maxHeartbeats 4000000 in
theorem pX11_undo (X : Cx) (w0 : Wd) (m : Nat) (hS : Sh w0 m) (A : Int32 → Rs → Prop) (a1 : Int32) (r : Rs)
    (hv : ((a1 < 1) → CM X w0 m bX11_no mX11_no [vI 1] r (pI fun x2 r4 => (x2 = 0 ∨ x2 = 1) ∧ A x2 r4)) ∧ ((¬ a1 < 1) → ((a1 ≤ (sS r 38)) → CM X w0 m bX11_isUndone mX11_isUndone [vI a1] r (pI fun x6 r8 => ((x6 = 0) → CM X w0 m bX11_dateNow mX11_dateNow [] r8 (pI fun x10 r12 => vp_in a1 101 ∧ ∀ r14 : Rs, r14 = uI r12 36 a1.toNatClampNeg x10 → vp_in a1 101 ∧ ∀ r17 : Rs, r17 = uI r14 37 a1.toNatClampNeg (sS r14 39) → ∀ r19 : Rs, r19 = uS r17 41 0 → A 1 r19)) ∧ ((¬ x6 = 0) → CM X w0 m bX11_no mX11_no [vI 8] r8 (pI fun x21 r23 => (x21 = 0 ∨ x21 = 1) ∧ A x21 r23)))) ∧ ((¬ a1 ≤ (sS r 38)) → CM X w0 m bX11_no mX11_no [vI 1] r (pI fun x24 r26 => (x24 = 0 ∨ x24 = 1) ∧ A x24 r26)))) :
    CM X w0 m bX11_undo mX11_undo [vI a1] r (pI A) := by
  intro w hW
  refine Ct.of (Q := qM w0 m (pI A)) (lv := [(0, vR m), (1, vI a1)]) rfl (Nat.le_of_ble_eq_true rfl) rfl ?_
  refine e_iload_n (pc := 0) (i := 1) dX11_undo_0 rfl rfl ?_
  refine e_iconst (pc := 1) (v := 1) dX11_undo_1 (by decide) ?_
  refine e_icmp_lt (pc := 2) (tgt := 13) dX11_undo_2 (by decide) (fun h1 => ?_) (fun h1 => ?_)
  · replace hv := hv.1 h1
    refine e_aload_n (pc := 13) (i := 0) dX11_undo_13 rfl rfl ?_
    refine e_iconst (pc := 14) (v := 1) dX11_undo_14 (by decide) ?_
    refine e_callV (pc := 15) (ci := 11) (st := []) (rc' := 0) (rs' := 0) (B' := bX11_no) [vI 1] dX11_undo_15 vRX11_238 kX11_no (by decide) rfl (hW.K hS) rfl rfl (Nat.le_of_ble_eq_true rfl) ⟨Nat.le_of_ble_eq_true rfl, Nat.le_of_ble_eq_true rfl⟩ rfl rfl (hv w hW) (fun zx2 w3 hq => ?_)
    obtain ⟨r4, hw3, x2, ex2, hv⟩ := hq
    subst ex2
    show EJ X mX11_undo _ 0 0 _ _ (vI x2 :: []) w3
    exact e_zreturn (pc := 18) dX11_undo_18 rfl hv.1 ⟨r4, hw3, _, rfl, hv.2⟩
  · replace hv := hv.2 h1
    refine e_iload_n (pc := 5) (i := 1) dX11_undo_5 rfl rfl ?_
    refine e_aload_n (pc := 6) (i := 0) dX11_undo_6 rfl rfl ?_
    refine n_getS (pc := 7) hS hW 38 dX11_undo_7 fRX11_275 rfl ?_
    refine e_icmp_le (pc := 10) (tgt := 19) dX11_undo_10 (by decide) (fun h5 => ?_) (fun h5 => ?_)
    · replace hv := hv.1 h5
      refine e_aload_n (pc := 19) (i := 0) dX11_undo_19 rfl rfl ?_
      refine e_iload_n (pc := 20) (i := 1) dX11_undo_20 rfl rfl ?_
      refine e_callV (pc := 21) (ci := 11) (st := []) (rc' := 0) (rs' := 0) (B' := bX11_isUndone) [vI a1] dX11_undo_21 vRX11_278 kX11_isUndone (by decide) rfl (hW.K hS) rfl rfl (Nat.le_of_ble_eq_true rfl) ⟨Nat.le_of_ble_eq_true rfl, Nat.le_of_ble_eq_true rfl⟩ rfl rfl (hv w hW) (fun zx6 w7 hq => ?_)
      obtain ⟨r8, hw7, x6, ex6, hv⟩ := hq
      subst ex6
      show EJ X mX11_undo _ 0 0 _ _ (vI x6 :: []) w7
      refine e_if_eq (pc := 24) (tgt := 34) dX11_undo_24 (by decide) (fun h9 => ?_) (fun h9 => ?_)
      · replace hv := hv.1 h9
        refine e_aload_n (pc := 34) (i := 0) dX11_undo_34 rfl rfl ?_
        refine n_get (pc := 35) hS hw7 36 dX11_undo_35 fRX11_114 rfl ?_
        refine e_iload_n (pc := 38) (i := 1) dX11_undo_38 rfl rfl ?_
        refine e_aload_n (pc := 39) (i := 0) dX11_undo_39 rfl rfl ?_
        refine e_callV (pc := 40) (ci := 11) (st := [vI a1, vR (wR w7 11 36 m)]) (rc' := 0) (rs' := 0) (B' := bX11_dateNow) [] dX11_undo_40 vRX11_252 kX11_dateNow (by decide) rfl (hw7.K hS) rfl rfl (Nat.le_of_ble_eq_true rfl) ⟨Nat.le_of_ble_eq_true rfl, Nat.le_of_ble_eq_true rfl⟩ rfl rfl (hv w7 hw7) (fun zx10 w11 hq => ?_)
        obtain ⟨r12, hw11, x10, ex10, hv⟩ := hq
        subst ex10
        show EJ X mX11_undo _ 0 0 _ _ (vI x10 :: [vI a1, vR (wR w7 11 36 m)]) w11
        have hi13 : vp_in a1 101 := hv.1
        replace hv := hv.2
        refine n_iast (pc := 43) (wa := w7) hS hw11 36 dX11_undo_43 (by decide) rfl hi13 (Wm.same hw7 hw11) (fun w15 hw15 => ?_)
        obtain ⟨r14, er14⟩ : ∃ r14 : Rs, r14 = uI r12 36 a1.toNatClampNeg x10 := ⟨_, rfl⟩
        replace hv := hv r14 er14
        rw [← er14] at hw15
        refine e_aload_n (pc := 44) (i := 0) dX11_undo_44 rfl rfl ?_
        refine n_get (pc := 45) hS hw15 37 dX11_undo_45 fRX11_117 rfl ?_
        refine e_iload_n (pc := 48) (i := 1) dX11_undo_48 rfl rfl ?_
        refine e_aload_n (pc := 49) (i := 0) dX11_undo_49 rfl rfl ?_
        refine n_getS (pc := 50) hS hw15 39 dX11_undo_50 fRX11_166 rfl ?_
        have hi16 : vp_in a1 101 := hv.1
        replace hv := hv.2
        refine n_iast (pc := 53) (wa := w15) hS hw15 37 dX11_undo_53 (by decide) rfl hi16 rfl (fun w18 hw18 => ?_)
        obtain ⟨r17, er17⟩ : ∃ r17 : Rs, r17 = uI r14 37 a1.toNatClampNeg (sS r14 39) := ⟨_, rfl⟩
        replace hv := hv r17 er17
        rw [← er17] at hw18
        refine e_aload_n (pc := 54) (i := 0) dX11_undo_54 rfl rfl ?_
        refine e_iconst (pc := 55) (v := 0) dX11_undo_55 (by decide) ?_
        refine n_putS (pc := 56) hS hw18 41 dX11_undo_56 fRX11_163 rfl rfl (fun w20 hw20 => ?_)
        obtain ⟨r19, er19⟩ : ∃ r19 : Rs, r19 = uS r17 41 0 := ⟨_, rfl⟩
        replace hv := hv r19 er19
        rw [← er19] at hw20
        refine e_iconst (pc := 59) (v := 1) dX11_undo_59 (by decide) ?_
        exact e_zreturn (pc := 60) dX11_undo_60 rfl (Or.inr rfl) ⟨r19, hw20, _, rfl, hv⟩
      · replace hv := hv.2 h9
        refine e_aload_n (pc := 27) (i := 0) dX11_undo_27 rfl rfl ?_
        refine e_bipush (pc := 28) (v := 8) dX11_undo_28 (by decide) ?_
        refine e_callV (pc := 30) (ci := 11) (st := []) (rc' := 0) (rs' := 0) (B' := bX11_no) [vI 8] dX11_undo_30 vRX11_238 kX11_no (by decide) rfl (hw7.K hS) rfl rfl (Nat.le_of_ble_eq_true rfl) ⟨Nat.le_of_ble_eq_true rfl, Nat.le_of_ble_eq_true rfl⟩ rfl rfl (hv w7 hw7) (fun zx21 w22 hq => ?_)
        obtain ⟨r23, hw22, x21, ex21, hv⟩ := hq
        subst ex21
        show EJ X mX11_undo _ 0 0 _ _ (vI x21 :: []) w22
        exact e_zreturn (pc := 33) dX11_undo_33 rfl hv.1 ⟨r23, hw22, _, rfl, hv.2⟩
    · replace hv := hv.2 h5
      refine e_aload_n (pc := 13) (i := 0) dX11_undo_13 rfl rfl ?_
      refine e_iconst (pc := 14) (v := 1) dX11_undo_14 (by decide) ?_
      refine e_callV (pc := 15) (ci := 11) (st := []) (rc' := 0) (rs' := 0) (B' := bX11_no) [vI 1] dX11_undo_15 vRX11_238 kX11_no (by decide) rfl (hW.K hS) rfl rfl (Nat.le_of_ble_eq_true rfl) ⟨Nat.le_of_ble_eq_true rfl, Nat.le_of_ble_eq_true rfl⟩ rfl rfl (hv w hW) (fun zx24 w25 hq => ?_)
      obtain ⟨r26, hw25, x24, ex24, hv⟩ := hq
      subst ex24
      show EJ X mX11_undo _ 0 0 _ _ (vI x24 :: []) w25
      exact e_zreturn (pc := 18) dX11_undo_18 rfl hv.1 ⟨r26, hw25, _, rfl, hv.2⟩
set_option maxRecDepth 100000 in
set_option maxHeartbeats 4000000 in
theorem pX11_release (X : Cx) (w0 : Wd) (m : Nat) (hS : Sh w0 m) (A : Int32 → Rs → Prop) (a1 : Int32) (a2 : Int32) (r : Rs)
    (hv : CM X w0 m bX11_isEntry mX11_isEntry [vI a1] r (pI fun x1 r3 => ((¬ x1 = 0) → vp_in a1 301 ∧ CM X w0 m bX11_wrong mX11_wrong [vI (rI r3 4 a1.toNatClampNeg), vI a2] r3 (pI fun x6 r8 => ((x6 ≤ 0) → CM X w0 m bX11_now mX11_now [] r8 (pV fun r12 => CM X w0 m bX11_lies mX11_lies [vI a1, vI a2] r12 (pI fun x13 r15 => ((¬ x13 = 0) → CM X w0 m bX11_dateNow mX11_dateNow [] r15 (pI fun x17 r19 => vp_in ((60 * a1) + a2) 18060 ∧ ∀ r21 : Rs, r21 = uI r19 28 ((60 * a1) + a2).toNatClampNeg x17 → vp_in ((60 * a1) + a2) 18060 ∧ ∀ r24 : Rs, r24 = uI r21 29 ((60 * a1) + a2).toNatClampNeg (sS r21 39) → ∀ r26 : Rs, r26 = uS r24 41 0 → A 1 r26)) ∧ ((x13 = 0) → CM X w0 m bX11_no mX11_no [vI 6] r15 (pI fun x28 r30 => (x28 = 0 ∨ x28 = 1) ∧ A x28 r30))))) ∧ ((¬ x6 ≤ 0) → CM X w0 m bX11_no mX11_no [vI x6] r8 (pI fun x31 r33 => (x31 = 0 ∨ x31 = 1) ∧ A x31 r33)))) ∧ ((x1 = 0) → CM X w0 m bX11_no mX11_no [vI 1] r3 (pI fun x34 r36 => (x34 = 0 ∨ x34 = 1) ∧ A x34 r36)))) :
    CM X w0 m bX11_release mX11_release [vI a1, vI a2] r (pI A) := by
  intro w hW
  refine Ct.of (Q := qM w0 m (pI A)) (lv := [(0, vR m), (1, vI a1), (2, vI a2)]) rfl (Nat.le_of_ble_eq_true rfl) rfl ?_
  refine e_aload_n (pc := 0) (i := 0) dX11_release_0 rfl rfl ?_
  refine e_iload_n (pc := 1) (i := 1) dX11_release_1 rfl rfl ?_
  refine e_callV (pc := 2) (ci := 11) (st := []) (rc' := 0) (rs' := 0) (B' := bX11_isEntry) [vI a1] dX11_release_2 vRX11_224 kX11_isEntry (by decide) rfl (hW.K hS) rfl rfl (Nat.le_of_ble_eq_true rfl) ⟨Nat.le_of_ble_eq_true rfl, Nat.le_of_ble_eq_true rfl⟩ rfl rfl (hv w hW) (fun zx1 w2 hq => ?_)
  obtain ⟨r3, hw2, x1, ex1, hv⟩ := hq
  subst ex1
  show EJ X mX11_release _ 0 0 _ _ (vI x1 :: []) w2
  refine e_if_ne (pc := 5) (tgt := 14) dX11_release_5 (by decide) (fun h4 => ?_) (fun h4 => ?_)
  · replace hv := hv.1 h4
    refine e_aload_n (pc := 14) (i := 0) dX11_release_14 rfl rfl ?_
    refine e_aload_n (pc := 15) (i := 0) dX11_release_15 rfl rfl ?_
    refine n_get (pc := 16) hS hw2 4 dX11_release_16 fRX11_20 rfl ?_
    refine e_iload_n (pc := 19) (i := 1) dX11_release_19 rfl rfl ?_
    have hi5 : vp_in a1 301 := hv.1
    replace hv := hv.2
    refine n_iald (pc := 20) (wa := w2) hS hw2 4 dX11_release_20 (by decide) rfl hi5 rfl ?_
    refine e_iload_n (pc := 21) (i := 2) dX11_release_21 rfl rfl ?_
    refine e_callV (pc := 22) (ci := 11) (st := []) (rc' := 0) (rs' := 0) (B' := bX11_wrong) [vI (rI r3 4 a1.toNatClampNeg), vI a2] dX11_release_22 vRX11_235 kX11_wrong (by decide) rfl (hw2.K hS) rfl rfl (Nat.le_of_ble_eq_true rfl) ⟨Nat.le_of_ble_eq_true rfl, Nat.le_of_ble_eq_true rfl⟩ rfl rfl (hv w2 hw2) (fun zx6 w7 hq => ?_)
    obtain ⟨r8, hw7, x6, ex6, hv⟩ := hq
    subst ex6
    show EJ X mX11_release _ 0 0 _ _ (vI x6 :: []) w7
    refine e_istore_n (pc := 25) (i := 3) (lv' := [(0, vR m), (1, vI a1), (2, vI a2), (3, vI x6)]) dX11_release_25 rfl (by decide) rfl ?_
    refine e_iload_n (pc := 26) (i := 3) dX11_release_26 rfl rfl ?_
    refine e_if_le (pc := 27) (tgt := 36) dX11_release_27 (by decide) (fun h9 => ?_) (fun h9 => ?_)
    · replace hv := hv.1 h9
      refine e_aload_n (pc := 36) (i := 0) dX11_release_36 rfl rfl ?_
      refine e_callV (pc := 37) (ci := 11) (st := []) (rc' := 0) (rs' := 0) (B' := bX11_now) [] dX11_release_37 vRX11_257 kX11_now (by decide) rfl (hw7.K hS) rfl rfl (Nat.le_of_ble_eq_true rfl) ⟨Nat.le_of_ble_eq_true rfl, Nat.le_of_ble_eq_true rfl⟩ rfl rfl (hv w7 hw7) (fun zx10 w11 hq => ?_)
      obtain ⟨r12, hw11, ex10, hv⟩ := hq
      subst ex10
      show EJ X mX11_release _ 0 0 _ _ [] w11
      refine e_aload_n (pc := 40) (i := 0) dX11_release_40 rfl rfl ?_
      refine e_iload_n (pc := 41) (i := 1) dX11_release_41 rfl rfl ?_
      refine e_iload_n (pc := 42) (i := 2) dX11_release_42 rfl rfl ?_
      refine e_callV (pc := 43) (ci := 11) (st := []) (rc' := 0) (rs' := 0) (B' := bX11_lies) [vI a1, vI a2] dX11_release_43 vRX11_293 kX11_lies (by decide) rfl (hw11.K hS) rfl rfl (Nat.le_of_ble_eq_true rfl) ⟨Nat.le_of_ble_eq_true rfl, Nat.le_of_ble_eq_true rfl⟩ rfl rfl (hv w11 hw11) (fun zx13 w14 hq => ?_)
      obtain ⟨r15, hw14, x13, ex13, hv⟩ := hq
      subst ex13
      show EJ X mX11_release _ 0 0 _ _ (vI x13 :: []) w14
      refine e_if_ne (pc := 46) (tgt := 56) dX11_release_46 (by decide) (fun h16 => ?_) (fun h16 => ?_)
      · replace hv := hv.1 h16
        refine e_aload_n (pc := 56) (i := 0) dX11_release_56 rfl rfl ?_
        refine n_get (pc := 57) hS hw14 28 dX11_release_57 fRX11_93 rfl ?_
        refine e_bipush (pc := 60) (v := 60) dX11_release_60 (by decide) ?_
        refine e_iload_n (pc := 62) (i := 1) dX11_release_62 rfl rfl ?_
        refine e_imul (pc := 63) dX11_release_63 ?_
        refine e_iload_n (pc := 64) (i := 2) dX11_release_64 rfl rfl ?_
        refine e_iadd (pc := 65) dX11_release_65 ?_
        refine e_aload_n (pc := 66) (i := 0) dX11_release_66 rfl rfl ?_
        refine e_callV (pc := 67) (ci := 11) (st := [vI ((60 * a1) + a2), vR (wR w14 11 28 m)]) (rc' := 0) (rs' := 0) (B' := bX11_dateNow) [] dX11_release_67 vRX11_252 kX11_dateNow (by decide) rfl (hw14.K hS) rfl rfl (Nat.le_of_ble_eq_true rfl) ⟨Nat.le_of_ble_eq_true rfl, Nat.le_of_ble_eq_true rfl⟩ rfl rfl (hv w14 hw14) (fun zx17 w18 hq => ?_)
        obtain ⟨r19, hw18, x17, ex17, hv⟩ := hq
        subst ex17
        show EJ X mX11_release _ 0 0 _ _ (vI x17 :: [vI ((60 * a1) + a2), vR (wR w14 11 28 m)]) w18
        have hi20 : vp_in ((60 * a1) + a2) 18060 := hv.1
        replace hv := hv.2
        refine n_iast (pc := 70) (wa := w14) hS hw18 28 dX11_release_70 (by decide) rfl hi20 (Wm.same hw14 hw18) (fun w22 hw22 => ?_)
        obtain ⟨r21, er21⟩ : ∃ r21 : Rs, r21 = uI r19 28 ((60 * a1) + a2).toNatClampNeg x17 := ⟨_, rfl⟩
        replace hv := hv r21 er21
        rw [← er21] at hw22
        refine e_aload_n (pc := 71) (i := 0) dX11_release_71 rfl rfl ?_
        refine n_get (pc := 72) hS hw22 29 dX11_release_72 fRX11_96 rfl ?_
        refine e_bipush (pc := 75) (v := 60) dX11_release_75 (by decide) ?_
        refine e_iload_n (pc := 77) (i := 1) dX11_release_77 rfl rfl ?_
        refine e_imul (pc := 78) dX11_release_78 ?_
        refine e_iload_n (pc := 79) (i := 2) dX11_release_79 rfl rfl ?_
        refine e_iadd (pc := 80) dX11_release_80 ?_
        refine e_aload_n (pc := 81) (i := 0) dX11_release_81 rfl rfl ?_
        refine n_getS (pc := 82) hS hw22 39 dX11_release_82 fRX11_166 rfl ?_
        have hi23 : vp_in ((60 * a1) + a2) 18060 := hv.1
        replace hv := hv.2
        refine n_iast (pc := 85) (wa := w22) hS hw22 29 dX11_release_85 (by decide) rfl hi23 rfl (fun w25 hw25 => ?_)
        obtain ⟨r24, er24⟩ : ∃ r24 : Rs, r24 = uI r21 29 ((60 * a1) + a2).toNatClampNeg (sS r21 39) := ⟨_, rfl⟩
        replace hv := hv r24 er24
        rw [← er24] at hw25
        refine e_aload_n (pc := 86) (i := 0) dX11_release_86 rfl rfl ?_
        refine e_iconst (pc := 87) (v := 0) dX11_release_87 (by decide) ?_
        refine n_putS (pc := 88) hS hw25 41 dX11_release_88 fRX11_163 rfl rfl (fun w27 hw27 => ?_)
        obtain ⟨r26, er26⟩ : ∃ r26 : Rs, r26 = uS r24 41 0 := ⟨_, rfl⟩
        replace hv := hv r26 er26
        rw [← er26] at hw27
        refine e_iconst (pc := 91) (v := 1) dX11_release_91 (by decide) ?_
        exact e_zreturn (pc := 92) dX11_release_92 rfl (Or.inr rfl) ⟨r26, hw27, _, rfl, hv⟩
      · replace hv := hv.2 h16
        refine e_aload_n (pc := 49) (i := 0) dX11_release_49 rfl rfl ?_
        refine e_bipush (pc := 50) (v := 6) dX11_release_50 (by decide) ?_
        refine e_callV (pc := 52) (ci := 11) (st := []) (rc' := 0) (rs' := 0) (B' := bX11_no) [vI 6] dX11_release_52 vRX11_238 kX11_no (by decide) rfl (hw14.K hS) rfl rfl (Nat.le_of_ble_eq_true rfl) ⟨Nat.le_of_ble_eq_true rfl, Nat.le_of_ble_eq_true rfl⟩ rfl rfl (hv w14 hw14) (fun zx28 w29 hq => ?_)
        obtain ⟨r30, hw29, x28, ex28, hv⟩ := hq
        subst ex28
        show EJ X mX11_release _ 0 0 _ _ (vI x28 :: []) w29
        exact e_zreturn (pc := 55) dX11_release_55 rfl hv.1 ⟨r30, hw29, _, rfl, hv.2⟩
    · replace hv := hv.2 h9
      refine e_aload_n (pc := 30) (i := 0) dX11_release_30 rfl rfl ?_
      refine e_iload_n (pc := 31) (i := 3) dX11_release_31 rfl rfl ?_
      refine e_callV (pc := 32) (ci := 11) (st := []) (rc' := 0) (rs' := 0) (B' := bX11_no) [vI x6] dX11_release_32 vRX11_238 kX11_no (by decide) rfl (hw7.K hS) rfl rfl (Nat.le_of_ble_eq_true rfl) ⟨Nat.le_of_ble_eq_true rfl, Nat.le_of_ble_eq_true rfl⟩ rfl rfl (hv w7 hw7) (fun zx31 w32 hq => ?_)
      obtain ⟨r33, hw32, x31, ex31, hv⟩ := hq
      subst ex31
      show EJ X mX11_release _ 0 0 _ _ (vI x31 :: []) w32
      exact e_zreturn (pc := 35) dX11_release_35 rfl hv.1 ⟨r33, hw32, _, rfl, hv.2⟩
  · replace hv := hv.2 h4
    refine e_aload_n (pc := 8) (i := 0) dX11_release_8 rfl rfl ?_
    refine e_iconst (pc := 9) (v := 1) dX11_release_9 (by decide) ?_
    refine e_callV (pc := 10) (ci := 11) (st := []) (rc' := 0) (rs' := 0) (B' := bX11_no) [vI 1] dX11_release_10 vRX11_238 kX11_no (by decide) rfl (hw2.K hS) rfl rfl (Nat.le_of_ble_eq_true rfl) ⟨Nat.le_of_ble_eq_true rfl, Nat.le_of_ble_eq_true rfl⟩ rfl rfl (hv w2 hw2) (fun zx34 w35 hq => ?_)
    obtain ⟨r36, hw35, x34, ex34, hv⟩ := hq
    subst ex34
    show EJ X mX11_release _ 0 0 _ _ (vI x34 :: []) w35
    exact e_zreturn (pc := 13) dX11_release_13 rfl hv.1 ⟨r36, hw35, _, rfl, hv.2⟩
set_option maxRecDepth 100000 in
set_option maxHeartbeats 4000000 in
theorem pX11_strike (X : Cx) (w0 : Wd) (m : Nat) (hS : Sh w0 m) (A : Int32 → Rs → Prop) (a1 : Int32) (r : Rs)
    (hv : CM X w0 m bX11_isEntry mX11_isEntry [vI a1] r (pI fun x1 r3 => ((¬ x1 = 0) → vp_in a1 301 ∧ (((rI r3 6 a1.toNatClampNeg) = 0) → CM X w0 m bX11_livesNow mX11_livesNow [vI a1] r3 (pI fun x7 r9 => ((¬ x7 = 0) → CM X w0 m bX11_dateNow mX11_dateNow [] r9 (pI fun x11 r13 => vp_in a1 301 ∧ (((rI r13 13 a1.toNatClampNeg) ≤ x11) → CM X w0 m bX11_dateNow mX11_dateNow [] r13 (pI fun x16 r18 => vp_in a1 301 ∧ ∀ r20 : Rs, r20 = uI r18 15 a1.toNatClampNeg x16 → vp_in a1 301 ∧ ∀ r23 : Rs, r23 = uI r20 16 a1.toNatClampNeg (sS r20 39) → ∀ r25 : Rs, r25 = uS r23 41 0 → A 1 r25)) ∧ ((¬ (rI r13 13 a1.toNatClampNeg) ≤ x11) → CM X w0 m bX11_no mX11_no [vI 8] r13 (pI fun x27 r29 => (x27 = 0 ∨ x27 = 1) ∧ A x27 r29)))) ∧ ((x7 = 0) → CM X w0 m bX11_no mX11_no [vI 6] r9 (pI fun x30 r32 => (x30 = 0 ∨ x30 = 1) ∧ A x30 r32)))) ∧ ((¬ (rI r3 6 a1.toNatClampNeg) = 0) → CM X w0 m bX11_no mX11_no [vI 4] r3 (pI fun x33 r35 => (x33 = 0 ∨ x33 = 1) ∧ A x33 r35))) ∧ ((x1 = 0) → CM X w0 m bX11_no mX11_no [vI 1] r3 (pI fun x36 r38 => (x36 = 0 ∨ x36 = 1) ∧ A x36 r38)))) :
    CM X w0 m bX11_strike mX11_strike [vI a1] r (pI A) := by
  intro w hW
  refine Ct.of (Q := qM w0 m (pI A)) (lv := [(0, vR m), (1, vI a1)]) rfl (Nat.le_of_ble_eq_true rfl) rfl ?_
  refine e_aload_n (pc := 0) (i := 0) dX11_strike_0 rfl rfl ?_
  refine e_iload_n (pc := 1) (i := 1) dX11_strike_1 rfl rfl ?_
  refine e_callV (pc := 2) (ci := 11) (st := []) (rc' := 0) (rs' := 0) (B' := bX11_isEntry) [vI a1] dX11_strike_2 vRX11_224 kX11_isEntry (by decide) rfl (hW.K hS) rfl rfl (Nat.le_of_ble_eq_true rfl) ⟨Nat.le_of_ble_eq_true rfl, Nat.le_of_ble_eq_true rfl⟩ rfl rfl (hv w hW) (fun zx1 w2 hq => ?_)
  obtain ⟨r3, hw2, x1, ex1, hv⟩ := hq
  subst ex1
  show EJ X mX11_strike _ 0 0 _ _ (vI x1 :: []) w2
  refine e_if_ne (pc := 5) (tgt := 14) dX11_strike_5 (by decide) (fun h4 => ?_) (fun h4 => ?_)
  · replace hv := hv.1 h4
    refine e_aload_n (pc := 14) (i := 0) dX11_strike_14 rfl rfl ?_
    refine n_get (pc := 15) hS hw2 6 dX11_strike_15 fRX11_26 rfl ?_
    refine e_iload_n (pc := 18) (i := 1) dX11_strike_18 rfl rfl ?_
    have hi5 : vp_in a1 301 := hv.1
    replace hv := hv.2
    refine n_iald (pc := 19) (wa := w2) hS hw2 6 dX11_strike_19 (by decide) rfl hi5 rfl ?_
    refine e_if_eq (pc := 20) (tgt := 29) dX11_strike_20 (by decide) (fun h6 => ?_) (fun h6 => ?_)
    · replace hv := hv.1 h6
      refine e_aload_n (pc := 29) (i := 0) dX11_strike_29 rfl rfl ?_
      refine e_iload_n (pc := 30) (i := 1) dX11_strike_30 rfl rfl ?_
      refine e_callV (pc := 31) (ci := 11) (st := []) (rc' := 0) (rs' := 0) (B' := bX11_livesNow) [vI a1] dX11_strike_31 vRX11_260 kX11_livesNow (by decide) rfl (hw2.K hS) rfl rfl (Nat.le_of_ble_eq_true rfl) ⟨Nat.le_of_ble_eq_true rfl, Nat.le_of_ble_eq_true rfl⟩ rfl rfl (hv w2 hw2) (fun zx7 w8 hq => ?_)
      obtain ⟨r9, hw8, x7, ex7, hv⟩ := hq
      subst ex7
      show EJ X mX11_strike _ 0 0 _ _ (vI x7 :: []) w8
      refine e_if_ne (pc := 34) (tgt := 44) dX11_strike_34 (by decide) (fun h10 => ?_) (fun h10 => ?_)
      · replace hv := hv.1 h10
        refine e_aload_n (pc := 44) (i := 0) dX11_strike_44 rfl rfl ?_
        refine e_callV (pc := 45) (ci := 11) (st := []) (rc' := 0) (rs' := 0) (B' := bX11_dateNow) [] dX11_strike_45 vRX11_252 kX11_dateNow (by decide) rfl (hw8.K hS) rfl rfl (Nat.le_of_ble_eq_true rfl) ⟨Nat.le_of_ble_eq_true rfl, Nat.le_of_ble_eq_true rfl⟩ rfl rfl (hv w8 hw8) (fun zx11 w12 hq => ?_)
        obtain ⟨r13, hw12, x11, ex11, hv⟩ := hq
        subst ex11
        show EJ X mX11_strike _ 0 0 _ _ (vI x11 :: []) w12
        refine e_aload_n (pc := 48) (i := 0) dX11_strike_48 rfl rfl ?_
        refine n_get (pc := 49) hS hw12 13 dX11_strike_49 fRX11_48 rfl ?_
        refine e_iload_n (pc := 52) (i := 1) dX11_strike_52 rfl rfl ?_
        have hi14 : vp_in a1 301 := hv.1
        replace hv := hv.2
        refine n_iald (pc := 53) (wa := w12) hS hw12 13 dX11_strike_53 (by decide) rfl hi14 rfl ?_
        refine e_icmp_ge (pc := 54) (tgt := 64) dX11_strike_54 (by decide) (fun h15 => ?_) (fun h15 => ?_)
        · replace hv := hv.1 h15
          refine e_aload_n (pc := 64) (i := 0) dX11_strike_64 rfl rfl ?_
          refine n_get (pc := 65) hS hw12 15 dX11_strike_65 fRX11_54 rfl ?_
          refine e_iload_n (pc := 68) (i := 1) dX11_strike_68 rfl rfl ?_
          refine e_aload_n (pc := 69) (i := 0) dX11_strike_69 rfl rfl ?_
          refine e_callV (pc := 70) (ci := 11) (st := [vI a1, vR (wR w12 11 15 m)]) (rc' := 0) (rs' := 0) (B' := bX11_dateNow) [] dX11_strike_70 vRX11_252 kX11_dateNow (by decide) rfl (hw12.K hS) rfl rfl (Nat.le_of_ble_eq_true rfl) ⟨Nat.le_of_ble_eq_true rfl, Nat.le_of_ble_eq_true rfl⟩ rfl rfl (hv w12 hw12) (fun zx16 w17 hq => ?_)
          obtain ⟨r18, hw17, x16, ex16, hv⟩ := hq
          subst ex16
          show EJ X mX11_strike _ 0 0 _ _ (vI x16 :: [vI a1, vR (wR w12 11 15 m)]) w17
          have hi19 : vp_in a1 301 := hv.1
          replace hv := hv.2
          refine n_iast (pc := 73) (wa := w12) hS hw17 15 dX11_strike_73 (by decide) rfl hi19 (Wm.same hw12 hw17) (fun w21 hw21 => ?_)
          obtain ⟨r20, er20⟩ : ∃ r20 : Rs, r20 = uI r18 15 a1.toNatClampNeg x16 := ⟨_, rfl⟩
          replace hv := hv r20 er20
          rw [← er20] at hw21
          refine e_aload_n (pc := 74) (i := 0) dX11_strike_74 rfl rfl ?_
          refine n_get (pc := 75) hS hw21 16 dX11_strike_75 fRX11_57 rfl ?_
          refine e_iload_n (pc := 78) (i := 1) dX11_strike_78 rfl rfl ?_
          refine e_aload_n (pc := 79) (i := 0) dX11_strike_79 rfl rfl ?_
          refine n_getS (pc := 80) hS hw21 39 dX11_strike_80 fRX11_166 rfl ?_
          have hi22 : vp_in a1 301 := hv.1
          replace hv := hv.2
          refine n_iast (pc := 83) (wa := w21) hS hw21 16 dX11_strike_83 (by decide) rfl hi22 rfl (fun w24 hw24 => ?_)
          obtain ⟨r23, er23⟩ : ∃ r23 : Rs, r23 = uI r20 16 a1.toNatClampNeg (sS r20 39) := ⟨_, rfl⟩
          replace hv := hv r23 er23
          rw [← er23] at hw24
          refine e_aload_n (pc := 84) (i := 0) dX11_strike_84 rfl rfl ?_
          refine e_iconst (pc := 85) (v := 0) dX11_strike_85 (by decide) ?_
          refine n_putS (pc := 86) hS hw24 41 dX11_strike_86 fRX11_163 rfl rfl (fun w26 hw26 => ?_)
          obtain ⟨r25, er25⟩ : ∃ r25 : Rs, r25 = uS r23 41 0 := ⟨_, rfl⟩
          replace hv := hv r25 er25
          rw [← er25] at hw26
          refine e_iconst (pc := 89) (v := 1) dX11_strike_89 (by decide) ?_
          exact e_zreturn (pc := 90) dX11_strike_90 rfl (Or.inr rfl) ⟨r25, hw26, _, rfl, hv⟩
        · replace hv := hv.2 h15
          refine e_aload_n (pc := 57) (i := 0) dX11_strike_57 rfl rfl ?_
          refine e_bipush (pc := 58) (v := 8) dX11_strike_58 (by decide) ?_
          refine e_callV (pc := 60) (ci := 11) (st := []) (rc' := 0) (rs' := 0) (B' := bX11_no) [vI 8] dX11_strike_60 vRX11_238 kX11_no (by decide) rfl (hw12.K hS) rfl rfl (Nat.le_of_ble_eq_true rfl) ⟨Nat.le_of_ble_eq_true rfl, Nat.le_of_ble_eq_true rfl⟩ rfl rfl (hv w12 hw12) (fun zx27 w28 hq => ?_)
          obtain ⟨r29, hw28, x27, ex27, hv⟩ := hq
          subst ex27
          show EJ X mX11_strike _ 0 0 _ _ (vI x27 :: []) w28
          exact e_zreturn (pc := 63) dX11_strike_63 rfl hv.1 ⟨r29, hw28, _, rfl, hv.2⟩
      · replace hv := hv.2 h10
        refine e_aload_n (pc := 37) (i := 0) dX11_strike_37 rfl rfl ?_
        refine e_bipush (pc := 38) (v := 6) dX11_strike_38 (by decide) ?_
        refine e_callV (pc := 40) (ci := 11) (st := []) (rc' := 0) (rs' := 0) (B' := bX11_no) [vI 6] dX11_strike_40 vRX11_238 kX11_no (by decide) rfl (hw8.K hS) rfl rfl (Nat.le_of_ble_eq_true rfl) ⟨Nat.le_of_ble_eq_true rfl, Nat.le_of_ble_eq_true rfl⟩ rfl rfl (hv w8 hw8) (fun zx30 w31 hq => ?_)
        obtain ⟨r32, hw31, x30, ex30, hv⟩ := hq
        subst ex30
        show EJ X mX11_strike _ 0 0 _ _ (vI x30 :: []) w31
        exact e_zreturn (pc := 43) dX11_strike_43 rfl hv.1 ⟨r32, hw31, _, rfl, hv.2⟩
    · replace hv := hv.2 h6
      refine e_aload_n (pc := 23) (i := 0) dX11_strike_23 rfl rfl ?_
      refine e_iconst (pc := 24) (v := 4) dX11_strike_24 (by decide) ?_
      refine e_callV (pc := 25) (ci := 11) (st := []) (rc' := 0) (rs' := 0) (B' := bX11_no) [vI 4] dX11_strike_25 vRX11_238 kX11_no (by decide) rfl (hw2.K hS) rfl rfl (Nat.le_of_ble_eq_true rfl) ⟨Nat.le_of_ble_eq_true rfl, Nat.le_of_ble_eq_true rfl⟩ rfl rfl (hv w2 hw2) (fun zx33 w34 hq => ?_)
      obtain ⟨r35, hw34, x33, ex33, hv⟩ := hq
      subst ex33
      show EJ X mX11_strike _ 0 0 _ _ (vI x33 :: []) w34
      exact e_zreturn (pc := 28) dX11_strike_28 rfl hv.1 ⟨r35, hw34, _, rfl, hv.2⟩
  · replace hv := hv.2 h4
    refine e_aload_n (pc := 8) (i := 0) dX11_strike_8 rfl rfl ?_
    refine e_iconst (pc := 9) (v := 1) dX11_strike_9 (by decide) ?_
    refine e_callV (pc := 10) (ci := 11) (st := []) (rc' := 0) (rs' := 0) (B' := bX11_no) [vI 1] dX11_strike_10 vRX11_238 kX11_no (by decide) rfl (hw2.K hS) rfl rfl (Nat.le_of_ble_eq_true rfl) ⟨Nat.le_of_ble_eq_true rfl, Nat.le_of_ble_eq_true rfl⟩ rfl rfl (hv w2 hw2) (fun zx36 w37 hq => ?_)
    obtain ⟨r38, hw37, x36, ex36, hv⟩ := hq
    subst ex36
    show EJ X mX11_strike _ 0 0 _ _ (vI x36 :: []) w37
    exact e_zreturn (pc := 13) dX11_strike_13 rfl hv.1 ⟨r38, hw37, _, rfl, hv.2⟩
set_option maxRecDepth 100000 in
set_option maxHeartbeats 4000000 in
theorem pX11_keep (X : Cx) (w0 : Wd) (m : Nat) (hS : Sh w0 m) (A : Int32 → Rs → Prop) (a1 : Int32) (a2 : Int32) (r : Rs)
    (hv : CM X w0 m bX11_isEntry mX11_isEntry [vI a1] r (pI fun x1 r3 => ((x1 = 0) → CM X w0 m bX11_no mX11_no [vI 1] r3 (pI fun x5 r7 => (x5 = 0 ∨ x5 = 1) ∧ A x5 r7)) ∧ ((¬ x1 = 0) → CM X w0 m bX11_isEntry mX11_isEntry [vI a2] r3 (pI fun x8 r10 => ((¬ x8 = 0) → vp_in a1 301 ∧ ((¬ (rI r10 3 a1.toNatClampNeg) = 6) → CM X w0 m bX11_no mX11_no [vI 4] r10 (pI fun x14 r16 => (x14 = 0 ∨ x14 = 1) ∧ A x14 r16)) ∧ (((rI r10 3 a1.toNatClampNeg) = 6) → vp_in a2 301 ∧ (((rI r10 3 a2.toNatClampNeg) = 6) → CM X w0 m bX11_no mX11_no [vI 4] r10 (pI fun x19 r21 => (x19 = 0 ∨ x19 = 1) ∧ A x19 r21)) ∧ ((¬ (rI r10 3 a2.toNatClampNeg) = 6) → vp_in a2 301 ∧ (((rI r10 6 a2.toNatClampNeg) = 0) → CM X w0 m bX11_livesNow mX11_livesNow [vI a1] r10 (pI fun x24 r26 => ((x24 = 0) → CM X w0 m bX11_no mX11_no [vI 6] r26 (pI fun x28 r30 => (x28 = 0 ∨ x28 = 1) ∧ A x28 r30)) ∧ ((¬ x24 = 0) → CM X w0 m bX11_lives mX11_lives [vI a2] r26 (pI fun x31 r33 => ((x31 = 0) → CM X w0 m bX11_no mX11_no [vI 6] r33 (pI fun x35 r37 => (x35 = 0 ∨ x35 = 1) ∧ A x35 r37)) ∧ ((¬ x31 = 0) → vp_in a1 301 ∧ vp_in a2 301 ∧ (((rI r33 4 a1.toNatClampNeg) = (rI r33 4 a2.toNatClampNeg)) → vp_in a2 301 ∧ vp_in a1 301 ∧ ((((rI r33 13 a2.toNatClampNeg) - (rI r33 13 a1.toNatClampNeg)) < 0) → CM X w0 m bX11_no mX11_no [vI 8] r33 (pI fun x44 r46 => (x44 = 0 ∨ x44 = 1) ∧ A x44 r46)) ∧ ((¬ ((rI r33 13 a2.toNatClampNeg) - (rI r33 13 a1.toNatClampNeg)) < 0) → vp_in a1 301 ∧ (((rI r33 11 a1.toNatClampNeg) < ((rI r33 13 a2.toNatClampNeg) - (rI r33 13 a1.toNatClampNeg))) → CM X w0 m bX11_no mX11_no [vI 8] r33 (pI fun x49 r51 => (x49 = 0 ∨ x49 = 1) ∧ A x49 r51)) ∧ ((¬ (rI r33 11 a1.toNatClampNeg) < ((rI r33 13 a2.toNatClampNeg) - (rI r33 13 a1.toNatClampNeg))) → vp_in a1 301 ∧ ((¬ (rI r33 24 a1.toNatClampNeg) = 0) → CM X w0 m bX11_no mX11_no [vI 8] r33 (pI fun x54 r56 => (x54 = 0 ∨ x54 = 1) ∧ A x54 r56)) ∧ (((rI r33 24 a1.toNatClampNeg) = 0) → vp_in a2 301 ∧ (((rI r33 25 a2.toNatClampNeg) = 0) → vp_in a1 301 ∧ ∀ r60 : Rs, r60 = uI r33 24 a1.toNatClampNeg a2 → vp_in a2 301 ∧ ∀ r63 : Rs, r63 = uI r60 25 a2.toNatClampNeg a1 → CM X w0 m bX11_dateNow mX11_dateNow [] r63 (pI fun x65 r67 => vp_in a2 301 ∧ ∀ r69 : Rs, r69 = uI r67 26 a2.toNatClampNeg x65 → vp_in a2 301 ∧ ∀ r72 : Rs, r72 = uI r69 27 a2.toNatClampNeg (sS r69 39) → ∀ r74 : Rs, r74 = uS r72 41 0 → A 1 r74)) ∧ ((¬ (rI r33 25 a2.toNatClampNeg) = 0) → CM X w0 m bX11_no mX11_no [vI 8] r33 (pI fun x76 r78 => (x76 = 0 ∨ x76 = 1) ∧ A x76 r78)))))) ∧ ((¬ (rI r33 4 a1.toNatClampNeg) = (rI r33 4 a2.toNatClampNeg)) → CM X w0 m bX11_no mX11_no [vI 6] r33 (pI fun x79 r81 => (x79 = 0 ∨ x79 = 1) ∧ A x79 r81))))))) ∧ ((¬ (rI r10 6 a2.toNatClampNeg) = 0) → CM X w0 m bX11_no mX11_no [vI 4] r10 (pI fun x82 r84 => (x82 = 0 ∨ x82 = 1) ∧ A x82 r84))))) ∧ ((x8 = 0) → CM X w0 m bX11_no mX11_no [vI 1] r10 (pI fun x85 r87 => (x85 = 0 ∨ x85 = 1) ∧ A x85 r87)))))) :
    CM X w0 m bX11_keep mX11_keep [vI a1, vI a2] r (pI A) := by
  intro w hW
  refine Ct.of (Q := qM w0 m (pI A)) (lv := [(0, vR m), (1, vI a1), (2, vI a2)]) rfl (Nat.le_of_ble_eq_true rfl) rfl ?_
  refine e_aload_n (pc := 0) (i := 0) dX11_keep_0 rfl rfl ?_
  refine e_iload_n (pc := 1) (i := 1) dX11_keep_1 rfl rfl ?_
  refine e_callV (pc := 2) (ci := 11) (st := []) (rc' := 0) (rs' := 0) (B' := bX11_isEntry) [vI a1] dX11_keep_2 vRX11_224 kX11_isEntry (by decide) rfl (hW.K hS) rfl rfl (Nat.le_of_ble_eq_true rfl) ⟨Nat.le_of_ble_eq_true rfl, Nat.le_of_ble_eq_true rfl⟩ rfl rfl (hv w hW) (fun zx1 w2 hq => ?_)
  obtain ⟨r3, hw2, x1, ex1, hv⟩ := hq
  subst ex1
  show EJ X mX11_keep _ 0 0 _ _ (vI x1 :: []) w2
  refine e_if_eq (pc := 5) (tgt := 16) dX11_keep_5 (by decide) (fun h4 => ?_) (fun h4 => ?_)
  · replace hv := hv.1 h4
    refine e_aload_n (pc := 16) (i := 0) dX11_keep_16 rfl rfl ?_
    refine e_iconst (pc := 17) (v := 1) dX11_keep_17 (by decide) ?_
    refine e_callV (pc := 18) (ci := 11) (st := []) (rc' := 0) (rs' := 0) (B' := bX11_no) [vI 1] dX11_keep_18 vRX11_238 kX11_no (by decide) rfl (hw2.K hS) rfl rfl (Nat.le_of_ble_eq_true rfl) ⟨Nat.le_of_ble_eq_true rfl, Nat.le_of_ble_eq_true rfl⟩ rfl rfl (hv w2 hw2) (fun zx5 w6 hq => ?_)
    obtain ⟨r7, hw6, x5, ex5, hv⟩ := hq
    subst ex5
    show EJ X mX11_keep _ 0 0 _ _ (vI x5 :: []) w6
    exact e_zreturn (pc := 21) dX11_keep_21 rfl hv.1 ⟨r7, hw6, _, rfl, hv.2⟩
  · replace hv := hv.2 h4
    refine e_aload_n (pc := 8) (i := 0) dX11_keep_8 rfl rfl ?_
    refine e_iload_n (pc := 9) (i := 2) dX11_keep_9 rfl rfl ?_
    refine e_callV (pc := 10) (ci := 11) (st := []) (rc' := 0) (rs' := 0) (B' := bX11_isEntry) [vI a2] dX11_keep_10 vRX11_224 kX11_isEntry (by decide) rfl (hw2.K hS) rfl rfl (Nat.le_of_ble_eq_true rfl) ⟨Nat.le_of_ble_eq_true rfl, Nat.le_of_ble_eq_true rfl⟩ rfl rfl (hv w2 hw2) (fun zx8 w9 hq => ?_)
    obtain ⟨r10, hw9, x8, ex8, hv⟩ := hq
    subst ex8
    show EJ X mX11_keep _ 0 0 _ _ (vI x8 :: []) w9
    refine e_if_ne (pc := 13) (tgt := 22) dX11_keep_13 (by decide) (fun h11 => ?_) (fun h11 => ?_)
    · replace hv := hv.1 h11
      refine e_aload_n (pc := 22) (i := 0) dX11_keep_22 rfl rfl ?_
      refine n_get (pc := 23) hS hw9 3 dX11_keep_23 fRX11_17 rfl ?_
      refine e_iload_n (pc := 26) (i := 1) dX11_keep_26 rfl rfl ?_
      have hi12 : vp_in a1 301 := hv.1
      replace hv := hv.2
      refine n_iald (pc := 27) (wa := w9) hS hw9 3 dX11_keep_27 (by decide) rfl hi12 rfl ?_
      refine e_bipush (pc := 28) (v := 6) dX11_keep_28 (by decide) ?_
      refine e_icmp_ne (pc := 30) (tgt := 53) dX11_keep_30 (by decide) (fun h13 => ?_) (fun h13 => ?_)
      · replace hv := hv.1 h13
        refine e_aload_n (pc := 53) (i := 0) dX11_keep_53 rfl rfl ?_
        refine e_iconst (pc := 54) (v := 4) dX11_keep_54 (by decide) ?_
        refine e_callV (pc := 55) (ci := 11) (st := []) (rc' := 0) (rs' := 0) (B' := bX11_no) [vI 4] dX11_keep_55 vRX11_238 kX11_no (by decide) rfl (hw9.K hS) rfl rfl (Nat.le_of_ble_eq_true rfl) ⟨Nat.le_of_ble_eq_true rfl, Nat.le_of_ble_eq_true rfl⟩ rfl rfl (hv w9 hw9) (fun zx14 w15 hq => ?_)
        obtain ⟨r16, hw15, x14, ex14, hv⟩ := hq
        subst ex14
        show EJ X mX11_keep _ 0 0 _ _ (vI x14 :: []) w15
        exact e_zreturn (pc := 58) dX11_keep_58 rfl hv.1 ⟨r16, hw15, _, rfl, hv.2⟩
      · replace hv := hv.2 h13
        refine e_aload_n (pc := 33) (i := 0) dX11_keep_33 rfl rfl ?_
        refine n_get (pc := 34) hS hw9 3 dX11_keep_34 fRX11_17 rfl ?_
        refine e_iload_n (pc := 37) (i := 2) dX11_keep_37 rfl rfl ?_
        have hi17 : vp_in a2 301 := hv.1
        replace hv := hv.2
        refine n_iald (pc := 38) (wa := w9) hS hw9 3 dX11_keep_38 (by decide) rfl hi17 rfl ?_
        refine e_bipush (pc := 39) (v := 6) dX11_keep_39 (by decide) ?_
        refine e_icmp_eq (pc := 41) (tgt := 53) dX11_keep_41 (by decide) (fun h18 => ?_) (fun h18 => ?_)
        · replace hv := hv.1 h18
          refine e_aload_n (pc := 53) (i := 0) dX11_keep_53 rfl rfl ?_
          refine e_iconst (pc := 54) (v := 4) dX11_keep_54 (by decide) ?_
          refine e_callV (pc := 55) (ci := 11) (st := []) (rc' := 0) (rs' := 0) (B' := bX11_no) [vI 4] dX11_keep_55 vRX11_238 kX11_no (by decide) rfl (hw9.K hS) rfl rfl (Nat.le_of_ble_eq_true rfl) ⟨Nat.le_of_ble_eq_true rfl, Nat.le_of_ble_eq_true rfl⟩ rfl rfl (hv w9 hw9) (fun zx19 w20 hq => ?_)
          obtain ⟨r21, hw20, x19, ex19, hv⟩ := hq
          subst ex19
          show EJ X mX11_keep _ 0 0 _ _ (vI x19 :: []) w20
          exact e_zreturn (pc := 58) dX11_keep_58 rfl hv.1 ⟨r21, hw20, _, rfl, hv.2⟩
        · replace hv := hv.2 h18
          refine e_aload_n (pc := 44) (i := 0) dX11_keep_44 rfl rfl ?_
          refine n_get (pc := 45) hS hw9 6 dX11_keep_45 fRX11_26 rfl ?_
          refine e_iload_n (pc := 48) (i := 2) dX11_keep_48 rfl rfl ?_
          have hi22 : vp_in a2 301 := hv.1
          replace hv := hv.2
          refine n_iald (pc := 49) (wa := w9) hS hw9 6 dX11_keep_49 (by decide) rfl hi22 rfl ?_
          refine e_if_eq (pc := 50) (tgt := 59) dX11_keep_50 (by decide) (fun h23 => ?_) (fun h23 => ?_)
          · replace hv := hv.1 h23
            refine e_aload_n (pc := 59) (i := 0) dX11_keep_59 rfl rfl ?_
            refine e_iload_n (pc := 60) (i := 1) dX11_keep_60 rfl rfl ?_
            refine e_callV (pc := 61) (ci := 11) (st := []) (rc' := 0) (rs' := 0) (B' := bX11_livesNow) [vI a1] dX11_keep_61 vRX11_260 kX11_livesNow (by decide) rfl (hw9.K hS) rfl rfl (Nat.le_of_ble_eq_true rfl) ⟨Nat.le_of_ble_eq_true rfl, Nat.le_of_ble_eq_true rfl⟩ rfl rfl (hv w9 hw9) (fun zx24 w25 hq => ?_)
            obtain ⟨r26, hw25, x24, ex24, hv⟩ := hq
            subst ex24
            show EJ X mX11_keep _ 0 0 _ _ (vI x24 :: []) w25
            refine e_if_eq (pc := 64) (tgt := 90) dX11_keep_64 (by decide) (fun h27 => ?_) (fun h27 => ?_)
            · replace hv := hv.1 h27
              refine e_aload_n (pc := 90) (i := 0) dX11_keep_90 rfl rfl ?_
              refine e_bipush (pc := 91) (v := 6) dX11_keep_91 (by decide) ?_
              refine e_callV (pc := 93) (ci := 11) (st := []) (rc' := 0) (rs' := 0) (B' := bX11_no) [vI 6] dX11_keep_93 vRX11_238 kX11_no (by decide) rfl (hw25.K hS) rfl rfl (Nat.le_of_ble_eq_true rfl) ⟨Nat.le_of_ble_eq_true rfl, Nat.le_of_ble_eq_true rfl⟩ rfl rfl (hv w25 hw25) (fun zx28 w29 hq => ?_)
              obtain ⟨r30, hw29, x28, ex28, hv⟩ := hq
              subst ex28
              show EJ X mX11_keep _ 0 0 _ _ (vI x28 :: []) w29
              exact e_zreturn (pc := 96) dX11_keep_96 rfl hv.1 ⟨r30, hw29, _, rfl, hv.2⟩
            · replace hv := hv.2 h27
              refine e_aload_n (pc := 67) (i := 0) dX11_keep_67 rfl rfl ?_
              refine e_iload_n (pc := 68) (i := 2) dX11_keep_68 rfl rfl ?_
              refine e_callV (pc := 69) (ci := 11) (st := []) (rc' := 0) (rs' := 0) (B' := bX11_lives) [vI a2] dX11_keep_69 vRX11_195 kX11_lives (by decide) rfl (hw25.K hS) rfl rfl (Nat.le_of_ble_eq_true rfl) ⟨Nat.le_of_ble_eq_true rfl, Nat.le_of_ble_eq_true rfl⟩ rfl rfl (hv w25 hw25) (fun zx31 w32 hq => ?_)
              obtain ⟨r33, hw32, x31, ex31, hv⟩ := hq
              subst ex31
              show EJ X mX11_keep _ 0 0 _ _ (vI x31 :: []) w32
              refine e_if_eq (pc := 72) (tgt := 90) dX11_keep_72 (by decide) (fun h34 => ?_) (fun h34 => ?_)
              · replace hv := hv.1 h34
                refine e_aload_n (pc := 90) (i := 0) dX11_keep_90 rfl rfl ?_
                refine e_bipush (pc := 91) (v := 6) dX11_keep_91 (by decide) ?_
                refine e_callV (pc := 93) (ci := 11) (st := []) (rc' := 0) (rs' := 0) (B' := bX11_no) [vI 6] dX11_keep_93 vRX11_238 kX11_no (by decide) rfl (hw32.K hS) rfl rfl (Nat.le_of_ble_eq_true rfl) ⟨Nat.le_of_ble_eq_true rfl, Nat.le_of_ble_eq_true rfl⟩ rfl rfl (hv w32 hw32) (fun zx35 w36 hq => ?_)
                obtain ⟨r37, hw36, x35, ex35, hv⟩ := hq
                subst ex35
                show EJ X mX11_keep _ 0 0 _ _ (vI x35 :: []) w36
                exact e_zreturn (pc := 96) dX11_keep_96 rfl hv.1 ⟨r37, hw36, _, rfl, hv.2⟩
              · replace hv := hv.2 h34
                refine e_aload_n (pc := 75) (i := 0) dX11_keep_75 rfl rfl ?_
                refine n_get (pc := 76) hS hw32 4 dX11_keep_76 fRX11_20 rfl ?_
                refine e_iload_n (pc := 79) (i := 1) dX11_keep_79 rfl rfl ?_
                have hi38 : vp_in a1 301 := hv.1
                replace hv := hv.2
                refine n_iald (pc := 80) (wa := w32) hS hw32 4 dX11_keep_80 (by decide) rfl hi38 rfl ?_
                refine e_aload_n (pc := 81) (i := 0) dX11_keep_81 rfl rfl ?_
                refine n_get (pc := 82) hS hw32 4 dX11_keep_82 fRX11_20 rfl ?_
                refine e_iload_n (pc := 85) (i := 2) dX11_keep_85 rfl rfl ?_
                have hi39 : vp_in a2 301 := hv.1
                replace hv := hv.2
                refine n_iald (pc := 86) (wa := w32) hS hw32 4 dX11_keep_86 (by decide) rfl hi39 rfl ?_
                refine e_icmp_eq (pc := 87) (tgt := 97) dX11_keep_87 (by decide) (fun h40 => ?_) (fun h40 => ?_)
                · replace hv := hv.1 h40
                  refine e_aload_n (pc := 97) (i := 0) dX11_keep_97 rfl rfl ?_
                  refine n_get (pc := 98) hS hw32 13 dX11_keep_98 fRX11_48 rfl ?_
                  refine e_iload_n (pc := 101) (i := 2) dX11_keep_101 rfl rfl ?_
                  have hi41 : vp_in a2 301 := hv.1
                  replace hv := hv.2
                  refine n_iald (pc := 102) (wa := w32) hS hw32 13 dX11_keep_102 (by decide) rfl hi41 rfl ?_
                  refine e_aload_n (pc := 103) (i := 0) dX11_keep_103 rfl rfl ?_
                  refine n_get (pc := 104) hS hw32 13 dX11_keep_104 fRX11_48 rfl ?_
                  refine e_iload_n (pc := 107) (i := 1) dX11_keep_107 rfl rfl ?_
                  have hi42 : vp_in a1 301 := hv.1
                  replace hv := hv.2
                  refine n_iald (pc := 108) (wa := w32) hS hw32 13 dX11_keep_108 (by decide) rfl hi42 rfl ?_
                  refine e_isub (pc := 109) dX11_keep_109 ?_
                  refine e_istore_n (pc := 110) (i := 3) (lv' := [(0, vR m), (1, vI a1), (2, vI a2), (3, vI ((rI r33 13 a2.toNatClampNeg) - (rI r33 13 a1.toNatClampNeg)))]) dX11_keep_110 rfl (by decide) rfl ?_
                  refine e_iload_n (pc := 111) (i := 3) dX11_keep_111 rfl rfl ?_
                  refine e_if_lt (pc := 112) (tgt := 143) dX11_keep_112 (by decide) (fun h43 => ?_) (fun h43 => ?_)
                  · replace hv := hv.1 h43
                    refine e_aload_n (pc := 143) (i := 0) dX11_keep_143 rfl rfl ?_
                    refine e_bipush (pc := 144) (v := 8) dX11_keep_144 (by decide) ?_
                    refine e_callV (pc := 146) (ci := 11) (st := []) (rc' := 0) (rs' := 0) (B' := bX11_no) [vI 8] dX11_keep_146 vRX11_238 kX11_no (by decide) rfl (hw32.K hS) rfl rfl (Nat.le_of_ble_eq_true rfl) ⟨Nat.le_of_ble_eq_true rfl, Nat.le_of_ble_eq_true rfl⟩ rfl rfl (hv w32 hw32) (fun zx44 w45 hq => ?_)
                    obtain ⟨r46, hw45, x44, ex44, hv⟩ := hq
                    subst ex44
                    show EJ X mX11_keep _ 0 0 _ _ (vI x44 :: []) w45
                    exact e_zreturn (pc := 149) dX11_keep_149 rfl hv.1 ⟨r46, hw45, _, rfl, hv.2⟩
                  · replace hv := hv.2 h43
                    refine e_iload_n (pc := 115) (i := 3) dX11_keep_115 rfl rfl ?_
                    refine e_aload_n (pc := 116) (i := 0) dX11_keep_116 rfl rfl ?_
                    refine n_get (pc := 117) hS hw32 11 dX11_keep_117 fRX11_42 rfl ?_
                    refine e_iload_n (pc := 120) (i := 1) dX11_keep_120 rfl rfl ?_
                    have hi47 : vp_in a1 301 := hv.1
                    replace hv := hv.2
                    refine n_iald (pc := 121) (wa := w32) hS hw32 11 dX11_keep_121 (by decide) rfl hi47 rfl ?_
                    refine e_icmp_gt (pc := 122) (tgt := 143) dX11_keep_122 (by decide) (fun h48 => ?_) (fun h48 => ?_)
                    · replace hv := hv.1 h48
                      refine e_aload_n (pc := 143) (i := 0) dX11_keep_143 rfl rfl ?_
                      refine e_bipush (pc := 144) (v := 8) dX11_keep_144 (by decide) ?_
                      refine e_callV (pc := 146) (ci := 11) (st := []) (rc' := 0) (rs' := 0) (B' := bX11_no) [vI 8] dX11_keep_146 vRX11_238 kX11_no (by decide) rfl (hw32.K hS) rfl rfl (Nat.le_of_ble_eq_true rfl) ⟨Nat.le_of_ble_eq_true rfl, Nat.le_of_ble_eq_true rfl⟩ rfl rfl (hv w32 hw32) (fun zx49 w50 hq => ?_)
                      obtain ⟨r51, hw50, x49, ex49, hv⟩ := hq
                      subst ex49
                      show EJ X mX11_keep _ 0 0 _ _ (vI x49 :: []) w50
                      exact e_zreturn (pc := 149) dX11_keep_149 rfl hv.1 ⟨r51, hw50, _, rfl, hv.2⟩
                    · replace hv := hv.2 h48
                      refine e_aload_n (pc := 125) (i := 0) dX11_keep_125 rfl rfl ?_
                      refine n_get (pc := 126) hS hw32 24 dX11_keep_126 fRX11_81 rfl ?_
                      refine e_iload_n (pc := 129) (i := 1) dX11_keep_129 rfl rfl ?_
                      have hi52 : vp_in a1 301 := hv.1
                      replace hv := hv.2
                      refine n_iald (pc := 130) (wa := w32) hS hw32 24 dX11_keep_130 (by decide) rfl hi52 rfl ?_
                      refine e_if_ne (pc := 131) (tgt := 143) dX11_keep_131 (by decide) (fun h53 => ?_) (fun h53 => ?_)
                      · replace hv := hv.1 h53
                        refine e_aload_n (pc := 143) (i := 0) dX11_keep_143 rfl rfl ?_
                        refine e_bipush (pc := 144) (v := 8) dX11_keep_144 (by decide) ?_
                        refine e_callV (pc := 146) (ci := 11) (st := []) (rc' := 0) (rs' := 0) (B' := bX11_no) [vI 8] dX11_keep_146 vRX11_238 kX11_no (by decide) rfl (hw32.K hS) rfl rfl (Nat.le_of_ble_eq_true rfl) ⟨Nat.le_of_ble_eq_true rfl, Nat.le_of_ble_eq_true rfl⟩ rfl rfl (hv w32 hw32) (fun zx54 w55 hq => ?_)
                        obtain ⟨r56, hw55, x54, ex54, hv⟩ := hq
                        subst ex54
                        show EJ X mX11_keep _ 0 0 _ _ (vI x54 :: []) w55
                        exact e_zreturn (pc := 149) dX11_keep_149 rfl hv.1 ⟨r56, hw55, _, rfl, hv.2⟩
                      · replace hv := hv.2 h53
                        refine e_aload_n (pc := 134) (i := 0) dX11_keep_134 rfl rfl ?_
                        refine n_get (pc := 135) hS hw32 25 dX11_keep_135 fRX11_84 rfl ?_
                        refine e_iload_n (pc := 138) (i := 2) dX11_keep_138 rfl rfl ?_
                        have hi57 : vp_in a2 301 := hv.1
                        replace hv := hv.2
                        refine n_iald (pc := 139) (wa := w32) hS hw32 25 dX11_keep_139 (by decide) rfl hi57 rfl ?_
                        refine e_if_eq (pc := 140) (tgt := 150) dX11_keep_140 (by decide) (fun h58 => ?_) (fun h58 => ?_)
                        · replace hv := hv.1 h58
                          refine e_aload_n (pc := 150) (i := 0) dX11_keep_150 rfl rfl ?_
                          refine n_get (pc := 151) hS hw32 24 dX11_keep_151 fRX11_81 rfl ?_
                          refine e_iload_n (pc := 154) (i := 1) dX11_keep_154 rfl rfl ?_
                          refine e_iload_n (pc := 155) (i := 2) dX11_keep_155 rfl rfl ?_
                          have hi59 : vp_in a1 301 := hv.1
                          replace hv := hv.2
                          refine n_iast (pc := 156) (wa := w32) hS hw32 24 dX11_keep_156 (by decide) rfl hi59 rfl (fun w61 hw61 => ?_)
                          obtain ⟨r60, er60⟩ : ∃ r60 : Rs, r60 = uI r33 24 a1.toNatClampNeg a2 := ⟨_, rfl⟩
                          replace hv := hv r60 er60
                          rw [← er60] at hw61
                          refine e_aload_n (pc := 157) (i := 0) dX11_keep_157 rfl rfl ?_
                          refine n_get (pc := 158) hS hw61 25 dX11_keep_158 fRX11_84 rfl ?_
                          refine e_iload_n (pc := 161) (i := 2) dX11_keep_161 rfl rfl ?_
                          refine e_iload_n (pc := 162) (i := 1) dX11_keep_162 rfl rfl ?_
                          have hi62 : vp_in a2 301 := hv.1
                          replace hv := hv.2
                          refine n_iast (pc := 163) (wa := w61) hS hw61 25 dX11_keep_163 (by decide) rfl hi62 rfl (fun w64 hw64 => ?_)
                          obtain ⟨r63, er63⟩ : ∃ r63 : Rs, r63 = uI r60 25 a2.toNatClampNeg a1 := ⟨_, rfl⟩
                          replace hv := hv r63 er63
                          rw [← er63] at hw64
                          refine e_aload_n (pc := 164) (i := 0) dX11_keep_164 rfl rfl ?_
                          refine n_get (pc := 165) hS hw64 26 dX11_keep_165 fRX11_87 rfl ?_
                          refine e_iload_n (pc := 168) (i := 2) dX11_keep_168 rfl rfl ?_
                          refine e_aload_n (pc := 169) (i := 0) dX11_keep_169 rfl rfl ?_
                          refine e_callV (pc := 170) (ci := 11) (st := [vI a2, vR (wR w64 11 26 m)]) (rc' := 0) (rs' := 0) (B' := bX11_dateNow) [] dX11_keep_170 vRX11_252 kX11_dateNow (by decide) rfl (hw64.K hS) rfl rfl (Nat.le_of_ble_eq_true rfl) ⟨Nat.le_of_ble_eq_true rfl, Nat.le_of_ble_eq_true rfl⟩ rfl rfl (hv w64 hw64) (fun zx65 w66 hq => ?_)
                          obtain ⟨r67, hw66, x65, ex65, hv⟩ := hq
                          subst ex65
                          show EJ X mX11_keep _ 0 0 _ _ (vI x65 :: [vI a2, vR (wR w64 11 26 m)]) w66
                          have hi68 : vp_in a2 301 := hv.1
                          replace hv := hv.2
                          refine n_iast (pc := 173) (wa := w64) hS hw66 26 dX11_keep_173 (by decide) rfl hi68 (Wm.same hw64 hw66) (fun w70 hw70 => ?_)
                          obtain ⟨r69, er69⟩ : ∃ r69 : Rs, r69 = uI r67 26 a2.toNatClampNeg x65 := ⟨_, rfl⟩
                          replace hv := hv r69 er69
                          rw [← er69] at hw70
                          refine e_aload_n (pc := 174) (i := 0) dX11_keep_174 rfl rfl ?_
                          refine n_get (pc := 175) hS hw70 27 dX11_keep_175 fRX11_90 rfl ?_
                          refine e_iload_n (pc := 178) (i := 2) dX11_keep_178 rfl rfl ?_
                          refine e_aload_n (pc := 179) (i := 0) dX11_keep_179 rfl rfl ?_
                          refine n_getS (pc := 180) hS hw70 39 dX11_keep_180 fRX11_166 rfl ?_
                          have hi71 : vp_in a2 301 := hv.1
                          replace hv := hv.2
                          refine n_iast (pc := 183) (wa := w70) hS hw70 27 dX11_keep_183 (by decide) rfl hi71 rfl (fun w73 hw73 => ?_)
                          obtain ⟨r72, er72⟩ : ∃ r72 : Rs, r72 = uI r69 27 a2.toNatClampNeg (sS r69 39) := ⟨_, rfl⟩
                          replace hv := hv r72 er72
                          rw [← er72] at hw73
                          refine e_aload_n (pc := 184) (i := 0) dX11_keep_184 rfl rfl ?_
                          refine e_iconst (pc := 185) (v := 0) dX11_keep_185 (by decide) ?_
                          refine n_putS (pc := 186) hS hw73 41 dX11_keep_186 fRX11_163 rfl rfl (fun w75 hw75 => ?_)
                          obtain ⟨r74, er74⟩ : ∃ r74 : Rs, r74 = uS r72 41 0 := ⟨_, rfl⟩
                          replace hv := hv r74 er74
                          rw [← er74] at hw75
                          refine e_iconst (pc := 189) (v := 1) dX11_keep_189 (by decide) ?_
                          exact e_zreturn (pc := 190) dX11_keep_190 rfl (Or.inr rfl) ⟨r74, hw75, _, rfl, hv⟩
                        · replace hv := hv.2 h58
                          refine e_aload_n (pc := 143) (i := 0) dX11_keep_143 rfl rfl ?_
                          refine e_bipush (pc := 144) (v := 8) dX11_keep_144 (by decide) ?_
                          refine e_callV (pc := 146) (ci := 11) (st := []) (rc' := 0) (rs' := 0) (B' := bX11_no) [vI 8] dX11_keep_146 vRX11_238 kX11_no (by decide) rfl (hw32.K hS) rfl rfl (Nat.le_of_ble_eq_true rfl) ⟨Nat.le_of_ble_eq_true rfl, Nat.le_of_ble_eq_true rfl⟩ rfl rfl (hv w32 hw32) (fun zx76 w77 hq => ?_)
                          obtain ⟨r78, hw77, x76, ex76, hv⟩ := hq
                          subst ex76
                          show EJ X mX11_keep _ 0 0 _ _ (vI x76 :: []) w77
                          exact e_zreturn (pc := 149) dX11_keep_149 rfl hv.1 ⟨r78, hw77, _, rfl, hv.2⟩
                · replace hv := hv.2 h40
                  refine e_aload_n (pc := 90) (i := 0) dX11_keep_90 rfl rfl ?_
                  refine e_bipush (pc := 91) (v := 6) dX11_keep_91 (by decide) ?_
                  refine e_callV (pc := 93) (ci := 11) (st := []) (rc' := 0) (rs' := 0) (B' := bX11_no) [vI 6] dX11_keep_93 vRX11_238 kX11_no (by decide) rfl (hw32.K hS) rfl rfl (Nat.le_of_ble_eq_true rfl) ⟨Nat.le_of_ble_eq_true rfl, Nat.le_of_ble_eq_true rfl⟩ rfl rfl (hv w32 hw32) (fun zx79 w80 hq => ?_)
                  obtain ⟨r81, hw80, x79, ex79, hv⟩ := hq
                  subst ex79
                  show EJ X mX11_keep _ 0 0 _ _ (vI x79 :: []) w80
                  exact e_zreturn (pc := 96) dX11_keep_96 rfl hv.1 ⟨r81, hw80, _, rfl, hv.2⟩
          · replace hv := hv.2 h23
            refine e_aload_n (pc := 53) (i := 0) dX11_keep_53 rfl rfl ?_
            refine e_iconst (pc := 54) (v := 4) dX11_keep_54 (by decide) ?_
            refine e_callV (pc := 55) (ci := 11) (st := []) (rc' := 0) (rs' := 0) (B' := bX11_no) [vI 4] dX11_keep_55 vRX11_238 kX11_no (by decide) rfl (hw9.K hS) rfl rfl (Nat.le_of_ble_eq_true rfl) ⟨Nat.le_of_ble_eq_true rfl, Nat.le_of_ble_eq_true rfl⟩ rfl rfl (hv w9 hw9) (fun zx82 w83 hq => ?_)
            obtain ⟨r84, hw83, x82, ex82, hv⟩ := hq
            subst ex82
            show EJ X mX11_keep _ 0 0 _ _ (vI x82 :: []) w83
            exact e_zreturn (pc := 58) dX11_keep_58 rfl hv.1 ⟨r84, hw83, _, rfl, hv.2⟩
    · replace hv := hv.2 h11
      refine e_aload_n (pc := 16) (i := 0) dX11_keep_16 rfl rfl ?_
      refine e_iconst (pc := 17) (v := 1) dX11_keep_17 (by decide) ?_
      refine e_callV (pc := 18) (ci := 11) (st := []) (rc' := 0) (rs' := 0) (B' := bX11_no) [vI 1] dX11_keep_18 vRX11_238 kX11_no (by decide) rfl (hw9.K hS) rfl rfl (Nat.le_of_ble_eq_true rfl) ⟨Nat.le_of_ble_eq_true rfl, Nat.le_of_ble_eq_true rfl⟩ rfl rfl (hv w9 hw9) (fun zx85 w86 hq => ?_)
      obtain ⟨r87, hw86, x85, ex85, hv⟩ := hq
      subst ex85
      show EJ X mX11_keep _ 0 0 _ _ (vI x85 :: []) w86
      exact e_zreturn (pc := 21) dX11_keep_21 rfl hv.1 ⟨r87, hw86, _, rfl, hv.2⟩
set_option maxRecDepth 100000 in
set_option maxHeartbeats 4000000 in
theorem pX11_isFirst (X : Cx) (w0 : Wd) (m : Nat) (hS : Sh w0 m) (A : Int32 → Rs → Prop) (a1 : Int32) (r : Rs)
    (hv : vp_in a1 301 ∧ ((¬ (rI r 3 a1.toNatClampNeg) = 5) → A 0 r) ∧ (((rI r 3 a1.toNatClampNeg) = 5) → vp_in a1 301 ∧ vp_in a1 301 ∧ CM X w0 m bX11_counts mX11_counts [vI (rI r 22 a1.toNatClampNeg), vI (rI r 23 a1.toNatClampNeg)] r (pI fun x5 r7 => ((x5 = 0) → A 0 r7) ∧ ((¬ x5 = 0) → vp_in a1 301 ∧ (((sS r7 45) < (rI r7 20 a1.toNatClampNeg)) → A 0 r7) ∧ ((¬ (sS r7 45) < (rI r7 20 a1.toNatClampNeg)) → A 1 r7))))) :
    CM X w0 m bX11_isFirst mX11_isFirst [vI a1] r (pI A) := by
  intro w hW
  refine Ct.of (Q := qM w0 m (pI A)) (lv := [(0, vR m), (1, vI a1)]) rfl (Nat.le_of_ble_eq_true rfl) rfl ?_
  refine e_aload_n (pc := 0) (i := 0) dX11_isFirst_0 rfl rfl ?_
  refine n_get (pc := 1) hS hW 3 dX11_isFirst_1 fRX11_17 rfl ?_
  refine e_iload_n (pc := 4) (i := 1) dX11_isFirst_4 rfl rfl ?_
  have hi1 : vp_in a1 301 := hv.1
  replace hv := hv.2
  refine n_iald (pc := 5) (wa := w) hS hW 3 dX11_isFirst_5 (by decide) rfl hi1 rfl ?_
  refine e_iconst (pc := 6) (v := 5) dX11_isFirst_6 (by decide) ?_
  refine e_icmp_ne (pc := 7) (tgt := 46) dX11_isFirst_7 (by decide) (fun h2 => ?_) (fun h2 => ?_)
  · replace hv := hv.1 h2
    refine e_iconst (pc := 46) (v := 0) dX11_isFirst_46 (by decide) ?_
    exact e_zreturn (pc := 47) dX11_isFirst_47 rfl (Or.inl rfl) ⟨r, hW, _, rfl, hv⟩
  · replace hv := hv.2 h2
    refine e_aload_n (pc := 10) (i := 0) dX11_isFirst_10 rfl rfl ?_
    refine e_aload_n (pc := 11) (i := 0) dX11_isFirst_11 rfl rfl ?_
    refine n_get (pc := 12) hS hW 22 dX11_isFirst_12 fRX11_75 rfl ?_
    refine e_iload_n (pc := 15) (i := 1) dX11_isFirst_15 rfl rfl ?_
    have hi3 : vp_in a1 301 := hv.1
    replace hv := hv.2
    refine n_iald (pc := 16) (wa := w) hS hW 22 dX11_isFirst_16 (by decide) rfl hi3 rfl ?_
    refine e_aload_n (pc := 17) (i := 0) dX11_isFirst_17 rfl rfl ?_
    refine n_get (pc := 18) hS hW 23 dX11_isFirst_18 fRX11_78 rfl ?_
    refine e_iload_n (pc := 21) (i := 1) dX11_isFirst_21 rfl rfl ?_
    have hi4 : vp_in a1 301 := hv.1
    replace hv := hv.2
    refine n_iald (pc := 22) (wa := w) hS hW 23 dX11_isFirst_22 (by decide) rfl hi4 rfl ?_
    refine e_callV (pc := 23) (ci := 11) (st := []) (rc' := 0) (rs' := 0) (B' := bX11_counts) [vI (rI r 22 a1.toNatClampNeg), vI (rI r 23 a1.toNatClampNeg)] dX11_isFirst_23 vRX11_185 kX11_counts (by decide) rfl (hW.K hS) rfl rfl (Nat.le_of_ble_eq_true rfl) ⟨Nat.le_of_ble_eq_true rfl, Nat.le_of_ble_eq_true rfl⟩ rfl rfl (hv w hW) (fun zx5 w6 hq => ?_)
    obtain ⟨r7, hw6, x5, ex5, hv⟩ := hq
    subst ex5
    show EJ X mX11_isFirst _ 0 0 _ _ (vI x5 :: []) w6
    refine e_if_eq (pc := 26) (tgt := 46) dX11_isFirst_26 (by decide) (fun h8 => ?_) (fun h8 => ?_)
    · replace hv := hv.1 h8
      refine e_iconst (pc := 46) (v := 0) dX11_isFirst_46 (by decide) ?_
      exact e_zreturn (pc := 47) dX11_isFirst_47 rfl (Or.inl rfl) ⟨r7, hw6, _, rfl, hv⟩
    · replace hv := hv.2 h8
      refine e_aload_n (pc := 29) (i := 0) dX11_isFirst_29 rfl rfl ?_
      refine n_get (pc := 30) hS hw6 20 dX11_isFirst_30 fRX11_69 rfl ?_
      refine e_iload_n (pc := 33) (i := 1) dX11_isFirst_33 rfl rfl ?_
      have hi9 : vp_in a1 301 := hv.1
      replace hv := hv.2
      refine n_iald (pc := 34) (wa := w6) hS hw6 20 dX11_isFirst_34 (by decide) rfl hi9 rfl ?_
      refine e_aload_n (pc := 35) (i := 0) dX11_isFirst_35 rfl rfl ?_
      refine n_getS (pc := 36) hS hw6 45 dX11_isFirst_36 fRX11_175 rfl ?_
      refine e_icmp_gt (pc := 39) (tgt := 46) dX11_isFirst_39 (by decide) (fun h10 => ?_) (fun h10 => ?_)
      · replace hv := hv.1 h10
        refine e_iconst (pc := 46) (v := 0) dX11_isFirst_46 (by decide) ?_
        exact e_zreturn (pc := 47) dX11_isFirst_47 rfl (Or.inl rfl) ⟨r7, hw6, _, rfl, hv⟩
      · replace hv := hv.2 h10
        refine e_iconst (pc := 42) (v := 1) dX11_isFirst_42 (by decide) ?_
        refine e_goto (pc := 43) (tgt := 47) dX11_isFirst_43 (by decide) ?_
        exact e_zreturn (pc := 47) dX11_isFirst_47 rfl (Or.inr rfl) ⟨r7, hw6, _, rfl, hv⟩
set_option maxRecDepth 100000 in
set_option maxHeartbeats 4000000 in
theorem pX11_whose (X : Cx) (w0 : Wd) (m : Nat) (hS : Sh w0 m) (A : Int32 → Rs → Prop) (a1 : Int32) (r : Rs)
    (hv : vp_in a1 602 ∧ (((rI r 54 a1.toNatClampNeg) = 0) → vp_in a1 602 ∧ A (rI r 53 a1.toNatClampNeg) r) ∧ ((¬ (rI r 54 a1.toNatClampNeg) = 0) → vp_in a1 602 ∧ vp_in (rI r 53 a1.toNatClampNeg) 301 ∧ A (rI r 25 (rI r 53 a1.toNatClampNeg).toNatClampNeg) r)) :
    CM X w0 m bX11_whose mX11_whose [vI a1] r (pI A) := by
  intro w hW
  refine Ct.of (Q := qM w0 m (pI A)) (lv := [(0, vR m), (1, vI a1)]) rfl (Nat.le_of_ble_eq_true rfl) rfl ?_
  refine e_aload_n (pc := 0) (i := 0) dX11_whose_0 rfl rfl ?_
  refine n_get (pc := 1) hS hW 54 dX11_whose_1 fRX11_139 rfl ?_
  refine e_iload_n (pc := 4) (i := 1) dX11_whose_4 rfl rfl ?_
  have hi1 : vp_in a1 602 := hv.1
  replace hv := hv.2
  refine n_zald (pc := 5) (wa := w) hS hW 54 dX11_whose_5 (by decide) rfl hi1 rfl ?_
  refine e_if_eq (pc := 6) (tgt := 23) dX11_whose_6 (by decide) (fun h2 => ?_) (fun h2 => ?_)
  · replace hv := hv.1 h2
    refine e_aload_n (pc := 23) (i := 0) dX11_whose_23 rfl rfl ?_
    refine n_get (pc := 24) hS hW 53 dX11_whose_24 fRX11_136 rfl ?_
    refine e_iload_n (pc := 27) (i := 1) dX11_whose_27 rfl rfl ?_
    have hi3 : vp_in a1 602 := hv.1
    replace hv := hv.2
    refine n_iald (pc := 28) (wa := w) hS hW 53 dX11_whose_28 (by decide) rfl hi3 rfl ?_
    exact e_ireturn (pc := 29) dX11_whose_29 rfl ⟨r, hW, _, rfl, hv⟩
  · replace hv := hv.2 h2
    refine e_aload_n (pc := 9) (i := 0) dX11_whose_9 rfl rfl ?_
    refine n_get (pc := 10) hS hW 25 dX11_whose_10 fRX11_84 rfl ?_
    refine e_aload_n (pc := 13) (i := 0) dX11_whose_13 rfl rfl ?_
    refine n_get (pc := 14) hS hW 53 dX11_whose_14 fRX11_136 rfl ?_
    refine e_iload_n (pc := 17) (i := 1) dX11_whose_17 rfl rfl ?_
    have hi4 : vp_in a1 602 := hv.1
    replace hv := hv.2
    refine n_iald (pc := 18) (wa := w) hS hW 53 dX11_whose_18 (by decide) rfl hi4 rfl ?_
    have hi5 : vp_in (rI r 53 a1.toNatClampNeg) 301 := hv.1
    replace hv := hv.2
    refine n_iald (pc := 19) (wa := w) hS hW 25 dX11_whose_19 (by decide) rfl hi5 rfl ?_
    refine e_goto (pc := 20) (tgt := 29) dX11_whose_20 (by decide) ?_
    exact e_ireturn (pc := 29) dX11_whose_29 rfl ⟨r, hW, _, rfl, hv⟩
abbrev iX11_isAhead_21 (X : Cx) (w0 : Wd) (m : Nat) (A : Int32 → Rs → Prop) (l1 : Int32) (l3 : Int32) (l4 : Int32) (s0 : Int32) (r : Rs) : Prop := ∀ w, Wm w0 m r w → EJ X mX11_isAhead (vw X bX11_isAhead (qM w0 m (pI A))) 0 0 21 [(0, vR m), (1, vI l1), (3, vI l3), (4, vI l4)] [vI s0] w
abbrev iX11_isAhead_66 (X : Cx) (w0 : Wd) (m : Nat) (A : Int32 → Rs → Prop) (l4 : Int32) (l5 : Int32) (l6 : Int32) (s0 : Int32) (r : Rs) : Prop := ∀ w, Wm w0 m r w → EJ X mX11_isAhead (vw X bX11_isAhead (qM w0 m (pI A))) 0 0 66 [(0, vR m), (4, vI l4), (5, vI l5), (6, vI l6)] [vI s0] w
set_option maxRecDepth 100000 in
set_option maxHeartbeats 4000000 in
theorem rX11_isAhead_66 (X : Cx) (w0 : Wd) (m : Nat) (hS : Sh w0 m) (A : Int32 → Rs → Prop) (l4 : Int32) (l5 : Int32) (l6 : Int32) (s0 : Int32) (r : Rs)
    (hv : ((l6 = s0) → vp_in l4 301 ∧ vp_in l5 301 ∧ (((rI r 13 l4.toNatClampNeg) = (rI r 13 l5.toNatClampNeg)) → ((l5 ≤ l4) → A 0 r) ∧ ((¬ l5 ≤ l4) → A 1 r)) ∧ ((¬ (rI r 13 l4.toNatClampNeg) = (rI r 13 l5.toNatClampNeg)) → vp_in l4 301 ∧ vp_in l5 301 ∧ (((rI r 13 l5.toNatClampNeg) ≤ (rI r 13 l4.toNatClampNeg)) → A 0 r) ∧ ((¬ (rI r 13 l5.toNatClampNeg) ≤ (rI r 13 l4.toNatClampNeg)) → A 1 r))) ∧ ((¬ l6 = s0) → (l6 = 0 ∨ l6 = 1) ∧ A l6 r)) :
    iX11_isAhead_66 X w0 m A l4 l5 l6 s0 r := by
  intro w hW
  refine e_istore (pc := 66) (i := 7) (lv' := [(0, vR m), (4, vI l4), (5, vI l5), (6, vI l6), (7, vI s0)]) dX11_isAhead_66 (by decide) rfl ?_
  refine e_iload (pc := 68) (i := 6) dX11_isAhead_68 rfl ?_
  refine e_iload (pc := 70) (i := 7) dX11_isAhead_70 rfl ?_
  refine e_icmp_eq (pc := 72) (tgt := 78) dX11_isAhead_72 (by decide) (fun h1 => ?_) (fun h1 => ?_)
  · replace hv := hv.1 h1
    refine e_aload_n (pc := 78) (i := 0) dX11_isAhead_78 rfl rfl ?_
    refine n_get (pc := 79) hS hW 13 dX11_isAhead_79 fRX11_48 rfl ?_
    refine e_iload (pc := 82) (i := 4) dX11_isAhead_82 rfl ?_
    have hi2 : vp_in l4 301 := hv.1
    replace hv := hv.2
    refine n_iald (pc := 84) (wa := w) hS hW 13 dX11_isAhead_84 (by decide) rfl hi2 rfl ?_
    refine e_aload_n (pc := 85) (i := 0) dX11_isAhead_85 rfl rfl ?_
    refine n_get (pc := 86) hS hW 13 dX11_isAhead_86 fRX11_48 rfl ?_
    refine e_iload (pc := 89) (i := 5) dX11_isAhead_89 rfl ?_
    have hi3 : vp_in l5 301 := hv.1
    replace hv := hv.2
    refine n_iald (pc := 91) (wa := w) hS hW 13 dX11_isAhead_91 (by decide) rfl hi3 rfl ?_
    refine e_icmp_eq (pc := 92) (tgt := 120) dX11_isAhead_92 (by decide) (fun h4 => ?_) (fun h4 => ?_)
    · replace hv := hv.1 h4
      refine e_iload (pc := 120) (i := 4) dX11_isAhead_120 rfl ?_
      refine e_iload (pc := 122) (i := 5) dX11_isAhead_122 rfl ?_
      refine e_icmp_ge (pc := 124) (tgt := 131) dX11_isAhead_124 (by decide) (fun h5 => ?_) (fun h5 => ?_)
      · replace hv := hv.1 h5
        refine e_iconst (pc := 131) (v := 0) dX11_isAhead_131 (by decide) ?_
        exact e_zreturn (pc := 132) dX11_isAhead_132 rfl (Or.inl rfl) ⟨r, hW, _, rfl, hv⟩
      · replace hv := hv.2 h5
        refine e_iconst (pc := 127) (v := 1) dX11_isAhead_127 (by decide) ?_
        refine e_goto (pc := 128) (tgt := 132) dX11_isAhead_128 (by decide) ?_
        exact e_zreturn (pc := 132) dX11_isAhead_132 rfl (Or.inr rfl) ⟨r, hW, _, rfl, hv⟩
    · replace hv := hv.2 h4
      refine e_aload_n (pc := 95) (i := 0) dX11_isAhead_95 rfl rfl ?_
      refine n_get (pc := 96) hS hW 13 dX11_isAhead_96 fRX11_48 rfl ?_
      refine e_iload (pc := 99) (i := 4) dX11_isAhead_99 rfl ?_
      have hi6 : vp_in l4 301 := hv.1
      replace hv := hv.2
      refine n_iald (pc := 101) (wa := w) hS hW 13 dX11_isAhead_101 (by decide) rfl hi6 rfl ?_
      refine e_aload_n (pc := 102) (i := 0) dX11_isAhead_102 rfl rfl ?_
      refine n_get (pc := 103) hS hW 13 dX11_isAhead_103 fRX11_48 rfl ?_
      refine e_iload (pc := 106) (i := 5) dX11_isAhead_106 rfl ?_
      have hi7 : vp_in l5 301 := hv.1
      replace hv := hv.2
      refine n_iald (pc := 108) (wa := w) hS hW 13 dX11_isAhead_108 (by decide) rfl hi7 rfl ?_
      refine e_icmp_ge (pc := 109) (tgt := 116) dX11_isAhead_109 (by decide) (fun h8 => ?_) (fun h8 => ?_)
      · replace hv := hv.1 h8
        refine e_iconst (pc := 116) (v := 0) dX11_isAhead_116 (by decide) ?_
        refine e_goto (pc := 117) (tgt := 132) dX11_isAhead_117 (by decide) ?_
        exact e_zreturn (pc := 132) dX11_isAhead_132 rfl (Or.inl rfl) ⟨r, hW, _, rfl, hv⟩
      · replace hv := hv.2 h8
        refine e_iconst (pc := 112) (v := 1) dX11_isAhead_112 (by decide) ?_
        refine e_goto (pc := 113) (tgt := 132) dX11_isAhead_113 (by decide) ?_
        exact e_zreturn (pc := 132) dX11_isAhead_132 rfl (Or.inr rfl) ⟨r, hW, _, rfl, hv⟩
  · replace hv := hv.2 h1
    refine e_iload (pc := 75) (i := 6) dX11_isAhead_75 rfl ?_
    exact e_zreturn (pc := 77) dX11_isAhead_77 rfl hv.1 ⟨r, hW, _, rfl, hv.2⟩
set_option maxRecDepth 100000 in
set_option maxHeartbeats 4000000 in
theorem rX11_isAhead_21 (X : Cx) (w0 : Wd) (m : Nat) (hS : Sh w0 m) (A : Int32 → Rs → Prop) (l1 : Int32) (l3 : Int32) (l4 : Int32) (s0 : Int32) (r : Rs)
    (hv : vp_in l1 602 ∧ ((¬ (rI r 54 l1.toNatClampNeg) = 0) → ((¬ l3 = 0) → iX11_isAhead_66 X w0 m A l4 s0 0 0 r) ∧ ((l3 = 0) → CM X w0 m bX11_isFirst mX11_isFirst [vI s0] r (pI fun x4 r6 => ((x4 = 0) → iX11_isAhead_66 X w0 m A l4 s0 0 0 r6) ∧ ((¬ x4 = 0) → iX11_isAhead_66 X w0 m A l4 s0 0 1 r6)))) ∧ (((rI r 54 l1.toNatClampNeg) = 0) → CM X w0 m bX11_isFirst mX11_isFirst [vI l4] r (pI fun x8 r10 => ((x8 = 0) → ((¬ l3 = 0) → iX11_isAhead_66 X w0 m A l4 s0 0 0 r10) ∧ ((l3 = 0) → CM X w0 m bX11_isFirst mX11_isFirst [vI s0] r10 (pI fun x13 r15 => ((x13 = 0) → iX11_isAhead_66 X w0 m A l4 s0 0 0 r15) ∧ ((¬ x13 = 0) → iX11_isAhead_66 X w0 m A l4 s0 0 1 r15)))) ∧ ((¬ x8 = 0) → ((¬ l3 = 0) → iX11_isAhead_66 X w0 m A l4 s0 1 0 r10) ∧ ((l3 = 0) → CM X w0 m bX11_isFirst mX11_isFirst [vI s0] r10 (pI fun x18 r20 => ((x18 = 0) → iX11_isAhead_66 X w0 m A l4 s0 1 0 r20) ∧ ((¬ x18 = 0) → iX11_isAhead_66 X w0 m A l4 s0 1 1 r20))))))) :
    iX11_isAhead_21 X w0 m A l1 l3 l4 s0 r := by
  intro w hW
  refine e_istore (pc := 21) (i := 5) (lv' := [(0, vR m), (1, vI l1), (3, vI l3), (4, vI l4), (5, vI s0)]) dX11_isAhead_21 (by decide) rfl ?_
  refine e_aload_n (pc := 23) (i := 0) dX11_isAhead_23 rfl rfl ?_
  refine n_get (pc := 24) hS hW 54 dX11_isAhead_24 fRX11_139 rfl ?_
  refine e_iload_n (pc := 27) (i := 1) dX11_isAhead_27 rfl rfl ?_
  have hi1 : vp_in l1 602 := hv.1
  replace hv := hv.2
  refine n_zald (pc := 28) (wa := w) hS hW 54 dX11_isAhead_28 (by decide) rfl hi1 rfl ?_
  refine e_if_ne (pc := 29) (tgt := 45) dX11_isAhead_29 (by decide) (fun h2 => ?_) (fun h2 => ?_)
  · replace hv := hv.1 h2
    refine e_iconst (pc := 45) (v := 0) dX11_isAhead_45 (by decide) ?_
    refine e_istore (pc := 46) (i := 6) (lv' := [(0, vR m), (1, vI l1), (3, vI l3), (4, vI l4), (5, vI s0), (6, vI 0)]) dX11_isAhead_46 (by decide) rfl ?_
    refine e_iload_n (pc := 48) (i := 3) dX11_isAhead_48 rfl rfl ?_
    refine e_if_ne (pc := 49) (tgt := 65) dX11_isAhead_49 (by decide) (fun h3 => ?_) (fun h3 => ?_)
    · replace hv := hv.1 h3
      refine e_iconst (pc := 65) (v := 0) dX11_isAhead_65 (by decide) ?_
      exact EJ.drop [0, 4, 5, 6] rfl (hv w hW)
    · replace hv := hv.2 h3
      refine e_aload_n (pc := 52) (i := 0) dX11_isAhead_52 rfl rfl ?_
      refine e_iload (pc := 53) (i := 5) dX11_isAhead_53 rfl ?_
      refine e_callV (pc := 55) (ci := 11) (st := []) (rc' := 0) (rs' := 0) (B' := bX11_isFirst) [vI s0] dX11_isAhead_55 vRX11_299 kX11_isFirst (by decide) rfl (hW.K hS) rfl rfl (Nat.le_of_ble_eq_true rfl) ⟨Nat.le_of_ble_eq_true rfl, Nat.le_of_ble_eq_true rfl⟩ rfl rfl (hv w hW) (fun zx4 w5 hq => ?_)
      obtain ⟨r6, hw5, x4, ex4, hv⟩ := hq
      subst ex4
      show EJ X mX11_isAhead _ 0 0 _ _ (vI x4 :: []) w5
      refine e_if_eq (pc := 58) (tgt := 65) dX11_isAhead_58 (by decide) (fun h7 => ?_) (fun h7 => ?_)
      · replace hv := hv.1 h7
        refine e_iconst (pc := 65) (v := 0) dX11_isAhead_65 (by decide) ?_
        exact EJ.drop [0, 4, 5, 6] rfl (hv w5 hw5)
      · replace hv := hv.2 h7
        refine e_iconst (pc := 61) (v := 1) dX11_isAhead_61 (by decide) ?_
        refine e_goto (pc := 62) (tgt := 66) dX11_isAhead_62 (by decide) ?_
        exact EJ.drop [0, 4, 5, 6] rfl (hv w5 hw5)
  · replace hv := hv.2 h2
    refine e_aload_n (pc := 32) (i := 0) dX11_isAhead_32 rfl rfl ?_
    refine e_iload (pc := 33) (i := 4) dX11_isAhead_33 rfl ?_
    refine e_callV (pc := 35) (ci := 11) (st := []) (rc' := 0) (rs' := 0) (B' := bX11_isFirst) [vI l4] dX11_isAhead_35 vRX11_299 kX11_isFirst (by decide) rfl (hW.K hS) rfl rfl (Nat.le_of_ble_eq_true rfl) ⟨Nat.le_of_ble_eq_true rfl, Nat.le_of_ble_eq_true rfl⟩ rfl rfl (hv w hW) (fun zx8 w9 hq => ?_)
    obtain ⟨r10, hw9, x8, ex8, hv⟩ := hq
    subst ex8
    show EJ X mX11_isAhead _ 0 0 _ _ (vI x8 :: []) w9
    refine e_if_eq (pc := 38) (tgt := 45) dX11_isAhead_38 (by decide) (fun h11 => ?_) (fun h11 => ?_)
    · replace hv := hv.1 h11
      refine e_iconst (pc := 45) (v := 0) dX11_isAhead_45 (by decide) ?_
      refine e_istore (pc := 46) (i := 6) (lv' := [(0, vR m), (1, vI l1), (3, vI l3), (4, vI l4), (5, vI s0), (6, vI 0)]) dX11_isAhead_46 (by decide) rfl ?_
      refine e_iload_n (pc := 48) (i := 3) dX11_isAhead_48 rfl rfl ?_
      refine e_if_ne (pc := 49) (tgt := 65) dX11_isAhead_49 (by decide) (fun h12 => ?_) (fun h12 => ?_)
      · replace hv := hv.1 h12
        refine e_iconst (pc := 65) (v := 0) dX11_isAhead_65 (by decide) ?_
        exact EJ.drop [0, 4, 5, 6] rfl (hv w9 hw9)
      · replace hv := hv.2 h12
        refine e_aload_n (pc := 52) (i := 0) dX11_isAhead_52 rfl rfl ?_
        refine e_iload (pc := 53) (i := 5) dX11_isAhead_53 rfl ?_
        refine e_callV (pc := 55) (ci := 11) (st := []) (rc' := 0) (rs' := 0) (B' := bX11_isFirst) [vI s0] dX11_isAhead_55 vRX11_299 kX11_isFirst (by decide) rfl (hw9.K hS) rfl rfl (Nat.le_of_ble_eq_true rfl) ⟨Nat.le_of_ble_eq_true rfl, Nat.le_of_ble_eq_true rfl⟩ rfl rfl (hv w9 hw9) (fun zx13 w14 hq => ?_)
        obtain ⟨r15, hw14, x13, ex13, hv⟩ := hq
        subst ex13
        show EJ X mX11_isAhead _ 0 0 _ _ (vI x13 :: []) w14
        refine e_if_eq (pc := 58) (tgt := 65) dX11_isAhead_58 (by decide) (fun h16 => ?_) (fun h16 => ?_)
        · replace hv := hv.1 h16
          refine e_iconst (pc := 65) (v := 0) dX11_isAhead_65 (by decide) ?_
          exact EJ.drop [0, 4, 5, 6] rfl (hv w14 hw14)
        · replace hv := hv.2 h16
          refine e_iconst (pc := 61) (v := 1) dX11_isAhead_61 (by decide) ?_
          refine e_goto (pc := 62) (tgt := 66) dX11_isAhead_62 (by decide) ?_
          exact EJ.drop [0, 4, 5, 6] rfl (hv w14 hw14)
    · replace hv := hv.2 h11
      refine e_iconst (pc := 41) (v := 1) dX11_isAhead_41 (by decide) ?_
      refine e_goto (pc := 42) (tgt := 46) dX11_isAhead_42 (by decide) ?_
      refine e_istore (pc := 46) (i := 6) (lv' := [(0, vR m), (1, vI l1), (3, vI l3), (4, vI l4), (5, vI s0), (6, vI 1)]) dX11_isAhead_46 (by decide) rfl ?_
      refine e_iload_n (pc := 48) (i := 3) dX11_isAhead_48 rfl rfl ?_
      refine e_if_ne (pc := 49) (tgt := 65) dX11_isAhead_49 (by decide) (fun h17 => ?_) (fun h17 => ?_)
      · replace hv := hv.1 h17
        refine e_iconst (pc := 65) (v := 0) dX11_isAhead_65 (by decide) ?_
        exact EJ.drop [0, 4, 5, 6] rfl (hv w9 hw9)
      · replace hv := hv.2 h17
        refine e_aload_n (pc := 52) (i := 0) dX11_isAhead_52 rfl rfl ?_
        refine e_iload (pc := 53) (i := 5) dX11_isAhead_53 rfl ?_
        refine e_callV (pc := 55) (ci := 11) (st := []) (rc' := 0) (rs' := 0) (B' := bX11_isFirst) [vI s0] dX11_isAhead_55 vRX11_299 kX11_isFirst (by decide) rfl (hw9.K hS) rfl rfl (Nat.le_of_ble_eq_true rfl) ⟨Nat.le_of_ble_eq_true rfl, Nat.le_of_ble_eq_true rfl⟩ rfl rfl (hv w9 hw9) (fun zx18 w19 hq => ?_)
        obtain ⟨r20, hw19, x18, ex18, hv⟩ := hq
        subst ex18
        show EJ X mX11_isAhead _ 0 0 _ _ (vI x18 :: []) w19
        refine e_if_eq (pc := 58) (tgt := 65) dX11_isAhead_58 (by decide) (fun h21 => ?_) (fun h21 => ?_)
        · replace hv := hv.1 h21
          refine e_iconst (pc := 65) (v := 0) dX11_isAhead_65 (by decide) ?_
          exact EJ.drop [0, 4, 5, 6] rfl (hv w19 hw19)
        · replace hv := hv.2 h21
          refine e_iconst (pc := 61) (v := 1) dX11_isAhead_61 (by decide) ?_
          refine e_goto (pc := 62) (tgt := 66) dX11_isAhead_62 (by decide) ?_
          exact EJ.drop [0, 4, 5, 6] rfl (hv w19 hw19)
set_option maxRecDepth 100000 in
set_option maxHeartbeats 4000000 in
theorem pX11_isAhead (X : Cx) (w0 : Wd) (m : Nat) (hS : Sh w0 m) (A : Int32 → Rs → Prop) (a1 : Int32) (a2 : Int32) (a3 : Int32) (r : Rs)
    (hv : CM X w0 m bX11_whose mX11_whose [vI a1] r (pI fun x1 r3 => ((a3 = 0) → iX11_isAhead_21 X w0 m A a1 a3 x1 a2 r3) ∧ ((¬ a3 = 0) → vp_in a2 301 ∧ iX11_isAhead_21 X w0 m A a1 a3 x1 (rI r3 25 a2.toNatClampNeg) r3))) :
    CM X w0 m bX11_isAhead mX11_isAhead [vI a1, vI a2, vI a3] r (pI A) := by
  intro w hW
  refine Ct.of (Q := qM w0 m (pI A)) (lv := [(0, vR m), (1, vI a1), (2, vI a2), (3, vI a3)]) rfl (Nat.le_of_ble_eq_true rfl) rfl ?_
  refine e_aload_n (pc := 0) (i := 0) dX11_isAhead_0 rfl rfl ?_
  refine e_iload_n (pc := 1) (i := 1) dX11_isAhead_1 rfl rfl ?_
  refine e_callV (pc := 2) (ci := 11) (st := []) (rc' := 0) (rs' := 0) (B' := bX11_whose) [vI a1] dX11_isAhead_2 vRX11_296 kX11_whose (by decide) rfl (hW.K hS) rfl rfl (Nat.le_of_ble_eq_true rfl) ⟨Nat.le_of_ble_eq_true rfl, Nat.le_of_ble_eq_true rfl⟩ rfl rfl (hv w hW) (fun zx1 w2 hq => ?_)
  obtain ⟨r3, hw2, x1, ex1, hv⟩ := hq
  subst ex1
  show EJ X mX11_isAhead _ 0 0 _ _ (vI x1 :: []) w2
  refine e_istore (pc := 5) (i := 4) (lv' := [(0, vR m), (1, vI a1), (2, vI a2), (3, vI a3), (4, vI x1)]) dX11_isAhead_5 (by decide) rfl ?_
  refine e_iload_n (pc := 7) (i := 3) dX11_isAhead_7 rfl rfl ?_
  refine e_if_eq (pc := 8) (tgt := 20) dX11_isAhead_8 (by decide) (fun h4 => ?_) (fun h4 => ?_)
  · replace hv := hv.1 h4
    refine e_iload_n (pc := 20) (i := 2) dX11_isAhead_20 rfl rfl ?_
    exact EJ.drop [0, 1, 3, 4] rfl (hv w2 hw2)
  · replace hv := hv.2 h4
    refine e_aload_n (pc := 11) (i := 0) dX11_isAhead_11 rfl rfl ?_
    refine n_get (pc := 12) hS hw2 25 dX11_isAhead_12 fRX11_84 rfl ?_
    refine e_iload_n (pc := 15) (i := 2) dX11_isAhead_15 rfl rfl ?_
    have hi5 : vp_in a2 301 := hv.1
    replace hv := hv.2
    refine n_iald (pc := 16) (wa := w2) hS hw2 25 dX11_isAhead_16 (by decide) rfl hi5 rfl ?_
    refine e_goto (pc := 17) (tgt := 21) dX11_isAhead_17 (by decide) ?_
    exact EJ.drop [0, 1, 3, 4] rfl (hv w2 hw2)
abbrev iX11_stand_5 (X : Cx) (w0 : Wd) (m : Nat) (A : Rs → Prop) (l1 : Int32) (l2 : Int32) (l3 : Int32) (r : Rs) : Prop := ∀ w, Wm w0 m r w → EJ X mX11_stand (vw X bX11_stand (qM w0 m (pV A))) 0 0 5 [(0, vR m), (1, vI l1), (2, vI l2), (3, vI l3)] [] w
abbrev iX11_stand_55 (X : Cx) (w0 : Wd) (m : Nat) (A : Rs → Prop) (l1 : Int32) (l2 : Int32) (l3 : Int32) (r : Rs) : Prop := ∀ w, Wm w0 m r w → EJ X mX11_stand (vw X bX11_stand (qM w0 m (pV A))) 0 0 55 [(0, vR m), (1, vI l1), (2, vI l2), (3, vI l3)] [] w
set_option maxRecDepth 100000 in
set_option maxHeartbeats 4000000 in
theorem rX11_stand_55 (X : Cx) (w0 : Wd) (m : Nat) (hS : Sh w0 m) (A : Rs → Prop) (l1 : Int32) (l2 : Int32) (l3 : Int32) (r : Rs)
    (hv : vp_in l3 602 ∧ ∀ r2 : Rs, r2 = uI r 53 l3.toNatClampNeg l1 → vp_in l3 602 ∧ (l2 = 0 ∨ l2 = 1) ∧ ∀ r5 : Rs, r5 = uI r2 54 l3.toNatClampNeg l2 → ∀ r7 : Rs, r7 = uS r5 57 ((sS r5 57) + 1) → A r7) :
    iX11_stand_55 X w0 m A l1 l2 l3 r := by
  intro w hW
  refine e_aload_n (pc := 55) (i := 0) dX11_stand_55 rfl rfl ?_
  refine n_get (pc := 56) hS hW 53 dX11_stand_56 fRX11_136 rfl ?_
  refine e_iload_n (pc := 59) (i := 3) dX11_stand_59 rfl rfl ?_
  refine e_iload_n (pc := 60) (i := 1) dX11_stand_60 rfl rfl ?_
  have hi1 : vp_in l3 602 := hv.1
  replace hv := hv.2
  refine n_iast (pc := 61) (wa := w) hS hW 53 dX11_stand_61 (by decide) rfl hi1 rfl (fun w3 hw3 => ?_)
  obtain ⟨r2, er2⟩ : ∃ r2 : Rs, r2 = uI r 53 l3.toNatClampNeg l1 := ⟨_, rfl⟩
  replace hv := hv r2 er2
  rw [← er2] at hw3
  refine e_aload_n (pc := 62) (i := 0) dX11_stand_62 rfl rfl ?_
  refine n_get (pc := 63) hS hw3 54 dX11_stand_63 fRX11_139 rfl ?_
  refine e_iload_n (pc := 66) (i := 3) dX11_stand_66 rfl rfl ?_
  refine e_iload_n (pc := 67) (i := 2) dX11_stand_67 rfl rfl ?_
  have hi4 : vp_in l3 602 := hv.1
  replace hv := hv.2
  have hz := hv.1
  replace hv := hv.2
  refine n_zast (pc := 68) (wa := w3) hS hw3 54 dX11_stand_68 (by decide) rfl hi4 rfl hz (fun w6 hw6 => ?_)
  obtain ⟨r5, er5⟩ : ∃ r5 : Rs, r5 = uI r2 54 l3.toNatClampNeg l2 := ⟨_, rfl⟩
  replace hv := hv r5 er5
  rw [← er5] at hw6
  refine e_aload_n (pc := 69) (i := 0) dX11_stand_69 rfl rfl ?_
  refine e_dup (pc := 70) dX11_stand_70 rfl ?_
  refine n_getS (pc := 71) hS hw6 57 dX11_stand_71 fRX11_302 rfl ?_
  refine e_iconst (pc := 74) (v := 1) dX11_stand_74 (by decide) ?_
  refine e_iadd (pc := 75) dX11_stand_75 ?_
  refine n_putS (pc := 76) hS hw6 57 dX11_stand_76 fRX11_302 rfl rfl (fun w8 hw8 => ?_)
  obtain ⟨r7, er7⟩ : ∃ r7 : Rs, r7 = uS r5 57 ((sS r5 57) + 1) := ⟨_, rfl⟩
  replace hv := hv r7 er7
  rw [← er7] at hw8
  exact e_vreturn (pc := 79) dX11_stand_79 rfl ⟨r7, hw8, rfl, hv⟩
set_option maxRecDepth 100000 in
set_option maxHeartbeats 4000000 in
theorem rX11_stand_5 (X : Cx) (w0 : Wd) (m : Nat) (hS : Sh w0 m) (A : Rs → Prop) (l1 : Int32) (l2 : Int32) (l3 : Int32) (r : Rs)
    (hv : ((l3 ≤ 0) → iX11_stand_55 X w0 m A l1 l2 l3 r) ∧ ((¬ l3 ≤ 0) → CM X w0 m bX11_isAhead mX11_isAhead [vI (l3 - 1), vI l1, vI l2] r (pI fun x2 r4 => ((¬ x2 = 0) → iX11_stand_55 X w0 m A l1 l2 l3 r4) ∧ ((x2 = 0) → vp_in (l3 - 1) 602 ∧ vp_in l3 602 ∧ ∀ r8 : Rs, r8 = uI r4 53 l3.toNatClampNeg (rI r4 53 (l3 - 1).toNatClampNeg) → vp_in (l3 - 1) 602 ∧ vp_in l3 602 ∧ ((rI r8 54 (l3 - 1).toNatClampNeg) = 0 ∨ (rI r8 54 (l3 - 1).toNatClampNeg) = 1) ∧ ∀ r12 : Rs, r12 = uI r8 54 l3.toNatClampNeg (rI r8 54 (l3 - 1).toNatClampNeg) → iX11_stand_5 X w0 m A l1 l2 (l3 + (-1)) r12)))) :
    iX11_stand_5 X w0 m A l1 l2 l3 r := by
  intro w hW
  refine e_iload_n (pc := 5) (i := 3) dX11_stand_5 rfl rfl ?_
  refine e_if_le (pc := 6) (tgt := 55) dX11_stand_6 (by decide) (fun h1 => ?_) (fun h1 => ?_)
  · replace hv := hv.1 h1
    exact hv w hW
  · replace hv := hv.2 h1
    refine e_aload_n (pc := 9) (i := 0) dX11_stand_9 rfl rfl ?_
    refine e_iload_n (pc := 10) (i := 3) dX11_stand_10 rfl rfl ?_
    refine e_iconst (pc := 11) (v := 1) dX11_stand_11 (by decide) ?_
    refine e_isub (pc := 12) dX11_stand_12 ?_
    refine e_iload_n (pc := 13) (i := 1) dX11_stand_13 rfl rfl ?_
    refine e_iload_n (pc := 14) (i := 2) dX11_stand_14 rfl rfl ?_
    refine e_callV (pc := 15) (ci := 11) (st := []) (rc' := 0) (rs' := 0) (B' := bX11_isAhead) [vI (l3 - 1), vI l1, vI l2] dX11_stand_15 vRX11_305 kX11_isAhead (by decide) rfl (hW.K hS) rfl rfl (Nat.le_of_ble_eq_true rfl) ⟨Nat.le_of_ble_eq_true rfl, Nat.le_of_ble_eq_true rfl⟩ rfl rfl (hv w hW) (fun zx2 w3 hq => ?_)
    obtain ⟨r4, hw3, x2, ex2, hv⟩ := hq
    subst ex2
    show EJ X mX11_stand _ 0 0 _ _ (vI x2 :: []) w3
    refine e_if_ne (pc := 18) (tgt := 55) dX11_stand_18 (by decide) (fun h5 => ?_) (fun h5 => ?_)
    · replace hv := hv.1 h5
      exact hv w3 hw3
    · replace hv := hv.2 h5
      refine e_aload_n (pc := 21) (i := 0) dX11_stand_21 rfl rfl ?_
      refine n_get (pc := 22) hS hw3 53 dX11_stand_22 fRX11_136 rfl ?_
      refine e_iload_n (pc := 25) (i := 3) dX11_stand_25 rfl rfl ?_
      refine e_aload_n (pc := 26) (i := 0) dX11_stand_26 rfl rfl ?_
      refine n_get (pc := 27) hS hw3 53 dX11_stand_27 fRX11_136 rfl ?_
      refine e_iload_n (pc := 30) (i := 3) dX11_stand_30 rfl rfl ?_
      refine e_iconst (pc := 31) (v := 1) dX11_stand_31 (by decide) ?_
      refine e_isub (pc := 32) dX11_stand_32 ?_
      have hi6 : vp_in (l3 - 1) 602 := hv.1
      replace hv := hv.2
      refine n_iald (pc := 33) (wa := w3) hS hw3 53 dX11_stand_33 (by decide) rfl hi6 rfl ?_
      have hi7 : vp_in l3 602 := hv.1
      replace hv := hv.2
      refine n_iast (pc := 34) (wa := w3) hS hw3 53 dX11_stand_34 (by decide) rfl hi7 rfl (fun w9 hw9 => ?_)
      obtain ⟨r8, er8⟩ : ∃ r8 : Rs, r8 = uI r4 53 l3.toNatClampNeg (rI r4 53 (l3 - 1).toNatClampNeg) := ⟨_, rfl⟩
      replace hv := hv r8 er8
      rw [← er8] at hw9
      refine e_aload_n (pc := 35) (i := 0) dX11_stand_35 rfl rfl ?_
      refine n_get (pc := 36) hS hw9 54 dX11_stand_36 fRX11_139 rfl ?_
      refine e_iload_n (pc := 39) (i := 3) dX11_stand_39 rfl rfl ?_
      refine e_aload_n (pc := 40) (i := 0) dX11_stand_40 rfl rfl ?_
      refine n_get (pc := 41) hS hw9 54 dX11_stand_41 fRX11_139 rfl ?_
      refine e_iload_n (pc := 44) (i := 3) dX11_stand_44 rfl rfl ?_
      refine e_iconst (pc := 45) (v := 1) dX11_stand_45 (by decide) ?_
      refine e_isub (pc := 46) dX11_stand_46 ?_
      have hi10 : vp_in (l3 - 1) 602 := hv.1
      replace hv := hv.2
      refine n_zald (pc := 47) (wa := w9) hS hw9 54 dX11_stand_47 (by decide) rfl hi10 rfl ?_
      have hi11 : vp_in l3 602 := hv.1
      replace hv := hv.2
      have hz := hv.1
      replace hv := hv.2
      refine n_zast (pc := 48) (wa := w9) hS hw9 54 dX11_stand_48 (by decide) rfl hi11 rfl hz (fun w13 hw13 => ?_)
      obtain ⟨r12, er12⟩ : ∃ r12 : Rs, r12 = uI r8 54 l3.toNatClampNeg (rI r8 54 (l3 - 1).toNatClampNeg) := ⟨_, rfl⟩
      replace hv := hv r12 er12
      rw [← er12] at hw13
      refine e_iinc (pc := 49) (v := l3 + (-1)) (lv' := [(0, vR m), (1, vI l1), (2, vI l2), (3, vI (l3 + (-1)))]) dX11_stand_49 rfl rfl (by decide) rfl ?_
      refine e_goto (pc := 52) (tgt := 5) dX11_stand_52 (by decide) ?_
      exact hv w13 hw13
set_option maxRecDepth 100000 in
set_option maxHeartbeats 4000000 in
theorem pX11_stand (X : Cx) (w0 : Wd) (m : Nat) (hS : Sh w0 m) (A : Rs → Prop) (a1 : Int32) (a2 : Int32) (r : Rs)
    (hv : iX11_stand_5 X w0 m A a1 a2 (sS r 57) r) :
    CM X w0 m bX11_stand mX11_stand [vI a1, vI a2] r (pV A) := by
  intro w hW
  refine Ct.of (Q := qM w0 m (pV A)) (lv := [(0, vR m), (1, vI a1), (2, vI a2)]) rfl (Nat.le_of_ble_eq_true rfl) rfl ?_
  refine e_aload_n (pc := 0) (i := 0) dX11_stand_0 rfl rfl ?_
  refine n_getS (pc := 1) hS hW 57 dX11_stand_1 fRX11_302 rfl ?_
  refine e_istore_n (pc := 4) (i := 3) (lv' := [(0, vR m), (1, vI a1), (2, vI a2), (3, vI (sS r 57))]) dX11_stand_4 rfl (by decide) rfl ?_
  exact hv w hW
abbrev iX11_placesOn_7 (X : Cx) (w0 : Wd) (m : Nat) (A : Rs → Prop) (l1 : Int32) (l2 : Int32) (l3 : Int32) (r : Rs) : Prop := ∀ w, Wm w0 m r w → EJ X mX11_placesOn (vw X bX11_placesOn (qM w0 m (pV A))) 0 0 7 [(0, vR m), (1, vI l1), (2, vI l2), (3, vI l3)] [] w
set_option maxRecDepth 100000 in
set_option maxHeartbeats 4000000 in
theorem rX11_placesOn_7 (X : Cx) (w0 : Wd) (m : Nat) (hS : Sh w0 m) (A : Rs → Prop) (l1 : Int32) (l2 : Int32) (l3 : Int32) (r : Rs)
    (hv : (((sS r 30) < l3) → A r) ∧ ((¬ (sS r 30) < l3) → vp_in l3 301 ∧ ((¬ (rI r 6 l3.toNatClampNeg) = 0) → iX11_placesOn_7 X w0 m A l1 l2 (l3 + 1) r) ∧ (((rI r 6 l3.toNatClampNeg) = 0) → vp_in l3 301 ∧ ((¬ (rI r 4 l3.toNatClampNeg) = l1) → iX11_placesOn_7 X w0 m A l1 l2 (l3 + 1) r) ∧ (((rI r 4 l3.toNatClampNeg) = l1) → vp_in l3 301 ∧ (((rI r 3 l3.toNatClampNeg) = 6) → iX11_placesOn_7 X w0 m A l1 l2 (l3 + 1) r) ∧ ((¬ (rI r 3 l3.toNatClampNeg) = 6) → CM X w0 m bX11_lies mX11_lies [vI l3, vI l2] r (pI fun x8 r10 => ((¬ x8 = 0) → CM X w0 m bX11_stand mX11_stand [vI l3, vI 0] r10 (pV fun r14 => vp_in l3 301 ∧ (((rI r14 25 l3.toNatClampNeg) = 0) → iX11_placesOn_7 X w0 m A l1 l2 (l3 + 1) r14) ∧ ((¬ (rI r14 25 l3.toNatClampNeg) = 0) → vp_in l3 301 ∧ vp_in l3 301 ∧ CM X w0 m bX11_counts mX11_counts [vI (rI r14 26 l3.toNatClampNeg), vI (rI r14 27 l3.toNatClampNeg)] r14 (pI fun x19 r21 => ((x19 = 0) → iX11_placesOn_7 X w0 m A l1 l2 (l3 + 1) r21) ∧ ((¬ x19 = 0) → CM X w0 m bX11_lies mX11_lies [vI (rI r14 25 l3.toNatClampNeg), vI l2] r21 (pI fun x23 r25 => ((x23 = 0) → iX11_placesOn_7 X w0 m A l1 l2 (l3 + 1) r25) ∧ ((¬ x23 = 0) → CM X w0 m bX11_stand mX11_stand [vI l3, vI 1] r25 (pV fun r29 => iX11_placesOn_7 X w0 m A l1 l2 (l3 + 1) r29)))))))) ∧ ((x8 = 0) → iX11_placesOn_7 X w0 m A l1 l2 (l3 + 1) r10))))))) :
    iX11_placesOn_7 X w0 m A l1 l2 l3 r := by
  intro w hW
  refine e_iload_n (pc := 7) (i := 3) dX11_placesOn_7 rfl rfl ?_
  refine e_aload_n (pc := 8) (i := 0) dX11_placesOn_8 rfl rfl ?_
  refine n_getS (pc := 9) hS hW 30 dX11_placesOn_9 fRX11_169 rfl ?_
  refine e_icmp_gt (pc := 12) (tgt := 117) dX11_placesOn_12 (by decide) (fun h1 => ?_) (fun h1 => ?_)
  · replace hv := hv.1 h1
    exact e_vreturn (pc := 117) dX11_placesOn_117 rfl ⟨r, hW, rfl, hv⟩
  · replace hv := hv.2 h1
    refine e_aload_n (pc := 15) (i := 0) dX11_placesOn_15 rfl rfl ?_
    refine n_get (pc := 16) hS hW 6 dX11_placesOn_16 fRX11_26 rfl ?_
    refine e_iload_n (pc := 19) (i := 3) dX11_placesOn_19 rfl rfl ?_
    have hi2 : vp_in l3 301 := hv.1
    replace hv := hv.2
    refine n_iald (pc := 20) (wa := w) hS hW 6 dX11_placesOn_20 (by decide) rfl hi2 rfl ?_
    refine e_if_ne (pc := 21) (tgt := 111) dX11_placesOn_21 (by decide) (fun h3 => ?_) (fun h3 => ?_)
    · replace hv := hv.1 h3
      refine e_iinc (pc := 111) (v := l3 + 1) (lv' := [(0, vR m), (1, vI l1), (2, vI l2), (3, vI (l3 + 1))]) dX11_placesOn_111 rfl rfl (by decide) rfl ?_
      refine e_goto (pc := 114) (tgt := 7) dX11_placesOn_114 (by decide) ?_
      exact hv w hW
    · replace hv := hv.2 h3
      refine e_aload_n (pc := 24) (i := 0) dX11_placesOn_24 rfl rfl ?_
      refine n_get (pc := 25) hS hW 4 dX11_placesOn_25 fRX11_20 rfl ?_
      refine e_iload_n (pc := 28) (i := 3) dX11_placesOn_28 rfl rfl ?_
      have hi4 : vp_in l3 301 := hv.1
      replace hv := hv.2
      refine n_iald (pc := 29) (wa := w) hS hW 4 dX11_placesOn_29 (by decide) rfl hi4 rfl ?_
      refine e_iload_n (pc := 30) (i := 1) dX11_placesOn_30 rfl rfl ?_
      refine e_icmp_ne (pc := 31) (tgt := 111) dX11_placesOn_31 (by decide) (fun h5 => ?_) (fun h5 => ?_)
      · replace hv := hv.1 h5
        refine e_iinc (pc := 111) (v := l3 + 1) (lv' := [(0, vR m), (1, vI l1), (2, vI l2), (3, vI (l3 + 1))]) dX11_placesOn_111 rfl rfl (by decide) rfl ?_
        refine e_goto (pc := 114) (tgt := 7) dX11_placesOn_114 (by decide) ?_
        exact hv w hW
      · replace hv := hv.2 h5
        refine e_aload_n (pc := 34) (i := 0) dX11_placesOn_34 rfl rfl ?_
        refine n_get (pc := 35) hS hW 3 dX11_placesOn_35 fRX11_17 rfl ?_
        refine e_iload_n (pc := 38) (i := 3) dX11_placesOn_38 rfl rfl ?_
        have hi6 : vp_in l3 301 := hv.1
        replace hv := hv.2
        refine n_iald (pc := 39) (wa := w) hS hW 3 dX11_placesOn_39 (by decide) rfl hi6 rfl ?_
        refine e_bipush (pc := 40) (v := 6) dX11_placesOn_40 (by decide) ?_
        refine e_icmp_eq (pc := 42) (tgt := 111) dX11_placesOn_42 (by decide) (fun h7 => ?_) (fun h7 => ?_)
        · replace hv := hv.1 h7
          refine e_iinc (pc := 111) (v := l3 + 1) (lv' := [(0, vR m), (1, vI l1), (2, vI l2), (3, vI (l3 + 1))]) dX11_placesOn_111 rfl rfl (by decide) rfl ?_
          refine e_goto (pc := 114) (tgt := 7) dX11_placesOn_114 (by decide) ?_
          exact hv w hW
        · replace hv := hv.2 h7
          refine e_aload_n (pc := 45) (i := 0) dX11_placesOn_45 rfl rfl ?_
          refine e_iload_n (pc := 46) (i := 3) dX11_placesOn_46 rfl rfl ?_
          refine e_iload_n (pc := 47) (i := 2) dX11_placesOn_47 rfl rfl ?_
          refine e_callV (pc := 48) (ci := 11) (st := []) (rc' := 0) (rs' := 0) (B' := bX11_lies) [vI l3, vI l2] dX11_placesOn_48 vRX11_293 kX11_lies (by decide) rfl (hW.K hS) rfl rfl (Nat.le_of_ble_eq_true rfl) ⟨Nat.le_of_ble_eq_true rfl, Nat.le_of_ble_eq_true rfl⟩ rfl rfl (hv w hW) (fun zx8 w9 hq => ?_)
          obtain ⟨r10, hw9, x8, ex8, hv⟩ := hq
          subst ex8
          show EJ X mX11_placesOn _ 0 0 _ _ (vI x8 :: []) w9
          refine e_if_ne (pc := 51) (tgt := 57) dX11_placesOn_51 (by decide) (fun h11 => ?_) (fun h11 => ?_)
          · replace hv := hv.1 h11
            refine e_aload_n (pc := 57) (i := 0) dX11_placesOn_57 rfl rfl ?_
            refine e_iload_n (pc := 58) (i := 3) dX11_placesOn_58 rfl rfl ?_
            refine e_iconst (pc := 59) (v := 0) dX11_placesOn_59 (by decide) ?_
            refine e_callV (pc := 60) (ci := 11) (st := []) (rc' := 0) (rs' := 0) (B' := bX11_stand) [vI l3, vI 0] dX11_placesOn_60 vRX11_309 kX11_stand (by decide) rfl (hw9.K hS) rfl rfl (Nat.le_of_ble_eq_true rfl) ⟨Nat.le_of_ble_eq_true rfl, Nat.le_of_ble_eq_true rfl⟩ rfl rfl (hv w9 hw9) (fun zx12 w13 hq => ?_)
            obtain ⟨r14, hw13, ex12, hv⟩ := hq
            subst ex12
            show EJ X mX11_placesOn _ 0 0 _ _ [] w13
            refine e_aload_n (pc := 63) (i := 0) dX11_placesOn_63 rfl rfl ?_
            refine n_get (pc := 64) hS hw13 25 dX11_placesOn_64 fRX11_84 rfl ?_
            refine e_iload_n (pc := 67) (i := 3) dX11_placesOn_67 rfl rfl ?_
            have hi15 : vp_in l3 301 := hv.1
            replace hv := hv.2
            refine n_iald (pc := 68) (wa := w13) hS hw13 25 dX11_placesOn_68 (by decide) rfl hi15 rfl ?_
            refine e_istore (pc := 69) (i := 4) (lv' := [(0, vR m), (1, vI l1), (2, vI l2), (3, vI l3), (4, vI (rI r14 25 l3.toNatClampNeg))]) dX11_placesOn_69 (by decide) rfl ?_
            refine e_iload (pc := 71) (i := 4) dX11_placesOn_71 rfl ?_
            refine e_if_eq (pc := 73) (tgt := 111) dX11_placesOn_73 (by decide) (fun h16 => ?_) (fun h16 => ?_)
            · replace hv := hv.1 h16
              refine e_iinc (pc := 111) (v := l3 + 1) (lv' := [(0, vR m), (1, vI l1), (2, vI l2), (3, vI (l3 + 1)), (4, vI (rI r14 25 l3.toNatClampNeg))]) dX11_placesOn_111 rfl rfl (by decide) rfl ?_
              refine e_goto (pc := 114) (tgt := 7) dX11_placesOn_114 (by decide) ?_
              exact EJ.drop [0, 1, 2, 3] rfl (hv w13 hw13)
            · replace hv := hv.2 h16
              refine e_aload_n (pc := 76) (i := 0) dX11_placesOn_76 rfl rfl ?_
              refine e_aload_n (pc := 77) (i := 0) dX11_placesOn_77 rfl rfl ?_
              refine n_get (pc := 78) hS hw13 26 dX11_placesOn_78 fRX11_87 rfl ?_
              refine e_iload_n (pc := 81) (i := 3) dX11_placesOn_81 rfl rfl ?_
              have hi17 : vp_in l3 301 := hv.1
              replace hv := hv.2
              refine n_iald (pc := 82) (wa := w13) hS hw13 26 dX11_placesOn_82 (by decide) rfl hi17 rfl ?_
              refine e_aload_n (pc := 83) (i := 0) dX11_placesOn_83 rfl rfl ?_
              refine n_get (pc := 84) hS hw13 27 dX11_placesOn_84 fRX11_90 rfl ?_
              refine e_iload_n (pc := 87) (i := 3) dX11_placesOn_87 rfl rfl ?_
              have hi18 : vp_in l3 301 := hv.1
              replace hv := hv.2
              refine n_iald (pc := 88) (wa := w13) hS hw13 27 dX11_placesOn_88 (by decide) rfl hi18 rfl ?_
              refine e_callV (pc := 89) (ci := 11) (st := []) (rc' := 0) (rs' := 0) (B' := bX11_counts) [vI (rI r14 26 l3.toNatClampNeg), vI (rI r14 27 l3.toNatClampNeg)] dX11_placesOn_89 vRX11_185 kX11_counts (by decide) rfl (hw13.K hS) rfl rfl (Nat.le_of_ble_eq_true rfl) ⟨Nat.le_of_ble_eq_true rfl, Nat.le_of_ble_eq_true rfl⟩ rfl rfl (hv w13 hw13) (fun zx19 w20 hq => ?_)
              obtain ⟨r21, hw20, x19, ex19, hv⟩ := hq
              subst ex19
              show EJ X mX11_placesOn _ 0 0 _ _ (vI x19 :: []) w20
              refine e_if_eq (pc := 92) (tgt := 111) dX11_placesOn_92 (by decide) (fun h22 => ?_) (fun h22 => ?_)
              · replace hv := hv.1 h22
                refine e_iinc (pc := 111) (v := l3 + 1) (lv' := [(0, vR m), (1, vI l1), (2, vI l2), (3, vI (l3 + 1)), (4, vI (rI r14 25 l3.toNatClampNeg))]) dX11_placesOn_111 rfl rfl (by decide) rfl ?_
                refine e_goto (pc := 114) (tgt := 7) dX11_placesOn_114 (by decide) ?_
                exact EJ.drop [0, 1, 2, 3] rfl (hv w20 hw20)
              · replace hv := hv.2 h22
                refine e_aload_n (pc := 95) (i := 0) dX11_placesOn_95 rfl rfl ?_
                refine e_iload (pc := 96) (i := 4) dX11_placesOn_96 rfl ?_
                refine e_iload_n (pc := 98) (i := 2) dX11_placesOn_98 rfl rfl ?_
                refine e_callV (pc := 99) (ci := 11) (st := []) (rc' := 0) (rs' := 0) (B' := bX11_lies) [vI (rI r14 25 l3.toNatClampNeg), vI l2] dX11_placesOn_99 vRX11_293 kX11_lies (by decide) rfl (hw20.K hS) rfl rfl (Nat.le_of_ble_eq_true rfl) ⟨Nat.le_of_ble_eq_true rfl, Nat.le_of_ble_eq_true rfl⟩ rfl rfl (hv w20 hw20) (fun zx23 w24 hq => ?_)
                obtain ⟨r25, hw24, x23, ex23, hv⟩ := hq
                subst ex23
                show EJ X mX11_placesOn _ 0 0 _ _ (vI x23 :: []) w24
                refine e_if_eq (pc := 102) (tgt := 111) dX11_placesOn_102 (by decide) (fun h26 => ?_) (fun h26 => ?_)
                · replace hv := hv.1 h26
                  refine e_iinc (pc := 111) (v := l3 + 1) (lv' := [(0, vR m), (1, vI l1), (2, vI l2), (3, vI (l3 + 1)), (4, vI (rI r14 25 l3.toNatClampNeg))]) dX11_placesOn_111 rfl rfl (by decide) rfl ?_
                  refine e_goto (pc := 114) (tgt := 7) dX11_placesOn_114 (by decide) ?_
                  exact EJ.drop [0, 1, 2, 3] rfl (hv w24 hw24)
                · replace hv := hv.2 h26
                  refine e_aload_n (pc := 105) (i := 0) dX11_placesOn_105 rfl rfl ?_
                  refine e_iload_n (pc := 106) (i := 3) dX11_placesOn_106 rfl rfl ?_
                  refine e_iconst (pc := 107) (v := 1) dX11_placesOn_107 (by decide) ?_
                  refine e_callV (pc := 108) (ci := 11) (st := []) (rc' := 0) (rs' := 0) (B' := bX11_stand) [vI l3, vI 1] dX11_placesOn_108 vRX11_309 kX11_stand (by decide) rfl (hw24.K hS) rfl rfl (Nat.le_of_ble_eq_true rfl) ⟨Nat.le_of_ble_eq_true rfl, Nat.le_of_ble_eq_true rfl⟩ rfl rfl (hv w24 hw24) (fun zx27 w28 hq => ?_)
                  obtain ⟨r29, hw28, ex27, hv⟩ := hq
                  subst ex27
                  show EJ X mX11_placesOn _ 0 0 _ _ [] w28
                  refine e_iinc (pc := 111) (v := l3 + 1) (lv' := [(0, vR m), (1, vI l1), (2, vI l2), (3, vI (l3 + 1)), (4, vI (rI r14 25 l3.toNatClampNeg))]) dX11_placesOn_111 rfl rfl (by decide) rfl ?_
                  refine e_goto (pc := 114) (tgt := 7) dX11_placesOn_114 (by decide) ?_
                  exact EJ.drop [0, 1, 2, 3] rfl (hv w28 hw28)
          · replace hv := hv.2 h11
            refine e_goto (pc := 54) (tgt := 111) dX11_placesOn_54 (by decide) ?_
            refine e_iinc (pc := 111) (v := l3 + 1) (lv' := [(0, vR m), (1, vI l1), (2, vI l2), (3, vI (l3 + 1))]) dX11_placesOn_111 rfl rfl (by decide) rfl ?_
            refine e_goto (pc := 114) (tgt := 7) dX11_placesOn_114 (by decide) ?_
            exact hv w9 hw9
set_option maxRecDepth 100000 in
set_option maxHeartbeats 4000000 in
theorem pX11_placesOn (X : Cx) (w0 : Wd) (m : Nat) (hS : Sh w0 m) (A : Rs → Prop) (a1 : Int32) (a2 : Int32) (r : Rs)
    (hv : ∀ r1 : Rs, r1 = uS r 57 0 → iX11_placesOn_7 X w0 m A a1 a2 1 r1) :
    CM X w0 m bX11_placesOn mX11_placesOn [vI a1, vI a2] r (pV A) := by
  intro w hW
  refine Ct.of (Q := qM w0 m (pV A)) (lv := [(0, vR m), (1, vI a1), (2, vI a2)]) rfl (Nat.le_of_ble_eq_true rfl) rfl ?_
  refine e_aload_n (pc := 0) (i := 0) dX11_placesOn_0 rfl rfl ?_
  refine e_iconst (pc := 1) (v := 0) dX11_placesOn_1 (by decide) ?_
  refine n_putS (pc := 2) hS hW 57 dX11_placesOn_2 fRX11_302 rfl rfl (fun w2 hw2 => ?_)
  obtain ⟨r1, er1⟩ : ∃ r1 : Rs, r1 = uS r 57 0 := ⟨_, rfl⟩
  replace hv := hv r1 er1
  rw [← er1] at hw2
  refine e_iconst (pc := 5) (v := 1) dX11_placesOn_5 (by decide) ?_
  refine e_istore_n (pc := 6) (i := 3) (lv' := [(0, vR m), (1, vI a1), (2, vI a2), (3, vI 1)]) dX11_placesOn_6 rfl (by decide) rfl ?_
  exact hv w2 hw2
set_option maxRecDepth 100000 in
set_option maxHeartbeats 4000000 in
theorem pX11_isPosted (X : Cx) (w0 : Wd) (m : Nat) (hS : Sh w0 m) (A : Int32 → Rs → Prop) (a1 : Int32) (a2 : Int32) (r : Rs)
    (hv : vp_in a1 101 ∧ vp_in a1 101 ∧ CM X w0 m bX11_counts mX11_counts [vI (rI r 34 a1.toNatClampNeg), vI (rI r 35 a1.toNatClampNeg)] r (pI fun x3 r5 => ((x3 = 0) → A 0 r5) ∧ ((¬ x3 = 0) → vp_in a1 101 ∧ vp_in a1 101 ∧ CM X w0 m bX11_counts mX11_counts [vI (rI r5 36 a1.toNatClampNeg), vI (rI r5 37 a1.toNatClampNeg)] r5 (pI fun x9 r11 => ((x9 = 0) → vp_in a1 101 ∧ CM X w0 m bX11_lies mX11_lies [vI (rI r11 31 a1.toNatClampNeg), vI a2] r11 (pI fun x14 r16 => ((x14 = 0) → A 0 r16) ∧ ((¬ x14 = 0) → vp_in a1 101 ∧ CM X w0 m bX11_lies mX11_lies [vI (rI r16 32 a1.toNatClampNeg), vI a2] r16 (pI fun x19 r21 => ((x19 = 0) → A 0 r21) ∧ ((¬ x19 = 0) → A 1 r21))))) ∧ ((¬ x9 = 0) → A 0 r11))))) :
    CM X w0 m bX11_isPosted mX11_isPosted [vI a1, vI a2] r (pI A) := by
  intro w hW
  refine Ct.of (Q := qM w0 m (pI A)) (lv := [(0, vR m), (1, vI a1), (2, vI a2)]) rfl (Nat.le_of_ble_eq_true rfl) rfl ?_
  refine e_aload_n (pc := 0) (i := 0) dX11_isPosted_0 rfl rfl ?_
  refine e_aload_n (pc := 1) (i := 0) dX11_isPosted_1 rfl rfl ?_
  refine n_get (pc := 2) hS hW 34 dX11_isPosted_2 fRX11_108 rfl ?_
  refine e_iload_n (pc := 5) (i := 1) dX11_isPosted_5 rfl rfl ?_
  have hi1 : vp_in a1 101 := hv.1
  replace hv := hv.2
  refine n_iald (pc := 6) (wa := w) hS hW 34 dX11_isPosted_6 (by decide) rfl hi1 rfl ?_
  refine e_aload_n (pc := 7) (i := 0) dX11_isPosted_7 rfl rfl ?_
  refine n_get (pc := 8) hS hW 35 dX11_isPosted_8 fRX11_111 rfl ?_
  refine e_iload_n (pc := 11) (i := 1) dX11_isPosted_11 rfl rfl ?_
  have hi2 : vp_in a1 101 := hv.1
  replace hv := hv.2
  refine n_iald (pc := 12) (wa := w) hS hW 35 dX11_isPosted_12 (by decide) rfl hi2 rfl ?_
  refine e_callV (pc := 13) (ci := 11) (st := []) (rc' := 0) (rs' := 0) (B' := bX11_counts) [vI (rI r 34 a1.toNatClampNeg), vI (rI r 35 a1.toNatClampNeg)] dX11_isPosted_13 vRX11_185 kX11_counts (by decide) rfl (hW.K hS) rfl rfl (Nat.le_of_ble_eq_true rfl) ⟨Nat.le_of_ble_eq_true rfl, Nat.le_of_ble_eq_true rfl⟩ rfl rfl (hv w hW) (fun zx3 w4 hq => ?_)
  obtain ⟨r5, hw4, x3, ex3, hv⟩ := hq
  subst ex3
  show EJ X mX11_isPosted _ 0 0 _ _ (vI x3 :: []) w4
  refine e_if_eq (pc := 16) (tgt := 38) dX11_isPosted_16 (by decide) (fun h6 => ?_) (fun h6 => ?_)
  · replace hv := hv.1 h6
    refine e_iconst (pc := 38) (v := 0) dX11_isPosted_38 (by decide) ?_
    exact e_zreturn (pc := 39) dX11_isPosted_39 rfl (Or.inl rfl) ⟨r5, hw4, _, rfl, hv⟩
  · replace hv := hv.2 h6
    refine e_aload_n (pc := 19) (i := 0) dX11_isPosted_19 rfl rfl ?_
    refine e_aload_n (pc := 20) (i := 0) dX11_isPosted_20 rfl rfl ?_
    refine n_get (pc := 21) hS hw4 36 dX11_isPosted_21 fRX11_114 rfl ?_
    refine e_iload_n (pc := 24) (i := 1) dX11_isPosted_24 rfl rfl ?_
    have hi7 : vp_in a1 101 := hv.1
    replace hv := hv.2
    refine n_iald (pc := 25) (wa := w4) hS hw4 36 dX11_isPosted_25 (by decide) rfl hi7 rfl ?_
    refine e_aload_n (pc := 26) (i := 0) dX11_isPosted_26 rfl rfl ?_
    refine n_get (pc := 27) hS hw4 37 dX11_isPosted_27 fRX11_117 rfl ?_
    refine e_iload_n (pc := 30) (i := 1) dX11_isPosted_30 rfl rfl ?_
    have hi8 : vp_in a1 101 := hv.1
    replace hv := hv.2
    refine n_iald (pc := 31) (wa := w4) hS hw4 37 dX11_isPosted_31 (by decide) rfl hi8 rfl ?_
    refine e_callV (pc := 32) (ci := 11) (st := []) (rc' := 0) (rs' := 0) (B' := bX11_counts) [vI (rI r5 36 a1.toNatClampNeg), vI (rI r5 37 a1.toNatClampNeg)] dX11_isPosted_32 vRX11_185 kX11_counts (by decide) rfl (hw4.K hS) rfl rfl (Nat.le_of_ble_eq_true rfl) ⟨Nat.le_of_ble_eq_true rfl, Nat.le_of_ble_eq_true rfl⟩ rfl rfl (hv w4 hw4) (fun zx9 w10 hq => ?_)
    obtain ⟨r11, hw10, x9, ex9, hv⟩ := hq
    subst ex9
    show EJ X mX11_isPosted _ 0 0 _ _ (vI x9 :: []) w10
    refine e_if_eq (pc := 35) (tgt := 40) dX11_isPosted_35 (by decide) (fun h12 => ?_) (fun h12 => ?_)
    · replace hv := hv.1 h12
      refine e_aload_n (pc := 40) (i := 0) dX11_isPosted_40 rfl rfl ?_
      refine e_aload_n (pc := 41) (i := 0) dX11_isPosted_41 rfl rfl ?_
      refine n_get (pc := 42) hS hw10 31 dX11_isPosted_42 fRX11_99 rfl ?_
      refine e_iload_n (pc := 45) (i := 1) dX11_isPosted_45 rfl rfl ?_
      have hi13 : vp_in a1 101 := hv.1
      replace hv := hv.2
      refine n_iald (pc := 46) (wa := w10) hS hw10 31 dX11_isPosted_46 (by decide) rfl hi13 rfl ?_
      refine e_iload_n (pc := 47) (i := 2) dX11_isPosted_47 rfl rfl ?_
      refine e_callV (pc := 48) (ci := 11) (st := []) (rc' := 0) (rs' := 0) (B' := bX11_lies) [vI (rI r11 31 a1.toNatClampNeg), vI a2] dX11_isPosted_48 vRX11_293 kX11_lies (by decide) rfl (hw10.K hS) rfl rfl (Nat.le_of_ble_eq_true rfl) ⟨Nat.le_of_ble_eq_true rfl, Nat.le_of_ble_eq_true rfl⟩ rfl rfl (hv w10 hw10) (fun zx14 w15 hq => ?_)
      obtain ⟨r16, hw15, x14, ex14, hv⟩ := hq
      subst ex14
      show EJ X mX11_isPosted _ 0 0 _ _ (vI x14 :: []) w15
      refine e_if_eq (pc := 51) (tgt := 72) dX11_isPosted_51 (by decide) (fun h17 => ?_) (fun h17 => ?_)
      · replace hv := hv.1 h17
        refine e_iconst (pc := 72) (v := 0) dX11_isPosted_72 (by decide) ?_
        exact e_zreturn (pc := 73) dX11_isPosted_73 rfl (Or.inl rfl) ⟨r16, hw15, _, rfl, hv⟩
      · replace hv := hv.2 h17
        refine e_aload_n (pc := 54) (i := 0) dX11_isPosted_54 rfl rfl ?_
        refine e_aload_n (pc := 55) (i := 0) dX11_isPosted_55 rfl rfl ?_
        refine n_get (pc := 56) hS hw15 32 dX11_isPosted_56 fRX11_102 rfl ?_
        refine e_iload_n (pc := 59) (i := 1) dX11_isPosted_59 rfl rfl ?_
        have hi18 : vp_in a1 101 := hv.1
        replace hv := hv.2
        refine n_iald (pc := 60) (wa := w15) hS hw15 32 dX11_isPosted_60 (by decide) rfl hi18 rfl ?_
        refine e_iload_n (pc := 61) (i := 2) dX11_isPosted_61 rfl rfl ?_
        refine e_callV (pc := 62) (ci := 11) (st := []) (rc' := 0) (rs' := 0) (B' := bX11_lies) [vI (rI r16 32 a1.toNatClampNeg), vI a2] dX11_isPosted_62 vRX11_293 kX11_lies (by decide) rfl (hw15.K hS) rfl rfl (Nat.le_of_ble_eq_true rfl) ⟨Nat.le_of_ble_eq_true rfl, Nat.le_of_ble_eq_true rfl⟩ rfl rfl (hv w15 hw15) (fun zx19 w20 hq => ?_)
        obtain ⟨r21, hw20, x19, ex19, hv⟩ := hq
        subst ex19
        show EJ X mX11_isPosted _ 0 0 _ _ (vI x19 :: []) w20
        refine e_if_eq (pc := 65) (tgt := 72) dX11_isPosted_65 (by decide) (fun h22 => ?_) (fun h22 => ?_)
        · replace hv := hv.1 h22
          refine e_iconst (pc := 72) (v := 0) dX11_isPosted_72 (by decide) ?_
          exact e_zreturn (pc := 73) dX11_isPosted_73 rfl (Or.inl rfl) ⟨r21, hw20, _, rfl, hv⟩
        · replace hv := hv.2 h22
          refine e_iconst (pc := 68) (v := 1) dX11_isPosted_68 (by decide) ?_
          refine e_goto (pc := 69) (tgt := 73) dX11_isPosted_69 (by decide) ?_
          exact e_zreturn (pc := 73) dX11_isPosted_73 rfl (Or.inr rfl) ⟨r21, hw20, _, rfl, hv⟩
    · replace hv := hv.2 h12
      refine e_iconst (pc := 38) (v := 0) dX11_isPosted_38 (by decide) ?_
      exact e_zreturn (pc := 39) dX11_isPosted_39 rfl (Or.inl rfl) ⟨r11, hw10, _, rfl, hv⟩
abbrev iX11_standsAt_2 (X : Cx) (w0 : Wd) (m : Nat) (A : Int32 → Rs → Prop) (l1 : Int32) (l2 : Int32) (r : Rs) : Prop := ∀ w, Wm w0 m r w → EJ X mX11_standsAt (vw X bX11_standsAt (qM w0 m (pI A))) 0 0 2 [(0, vR m), (1, vI l1), (2, vI l2)] [] w
set_option maxRecDepth 100000 in
set_option maxHeartbeats 4000000 in
theorem rX11_standsAt_2 (X : Cx) (w0 : Wd) (m : Nat) (hS : Sh w0 m) (A : Int32 → Rs → Prop) (l1 : Int32) (l2 : Int32) (r : Rs)
    (hv : (((sS r 58) ≤ l2) → A (-1) r) ∧ ((¬ (sS r 58) ≤ l2) → vp_in l2 301 ∧ ((¬ (rI r 55 l2.toNatClampNeg) = l1) → iX11_standsAt_2 X w0 m A l1 (l2 + 1) r) ∧ (((rI r 55 l2.toNatClampNeg) = l1) → A l2 r))) :
    iX11_standsAt_2 X w0 m A l1 l2 r := by
  intro w hW
  refine e_iload_n (pc := 2) (i := 2) dX11_standsAt_2 rfl rfl ?_
  refine e_aload_n (pc := 3) (i := 0) dX11_standsAt_3 rfl rfl ?_
  refine n_getS (pc := 4) hS hW 58 dX11_standsAt_4 fRX11_313 rfl ?_
  refine e_icmp_ge (pc := 7) (tgt := 28) dX11_standsAt_7 (by decide) (fun h1 => ?_) (fun h1 => ?_)
  · replace hv := hv.1 h1
    refine e_iconst (pc := 28) (v := (-1)) dX11_standsAt_28 (by decide) ?_
    exact e_ireturn (pc := 29) dX11_standsAt_29 rfl ⟨r, hW, _, rfl, hv⟩
  · replace hv := hv.2 h1
    refine e_aload_n (pc := 10) (i := 0) dX11_standsAt_10 rfl rfl ?_
    refine n_get (pc := 11) hS hW 55 dX11_standsAt_11 fRX11_142 rfl ?_
    refine e_iload_n (pc := 14) (i := 2) dX11_standsAt_14 rfl rfl ?_
    have hi2 : vp_in l2 301 := hv.1
    replace hv := hv.2
    refine n_iald (pc := 15) (wa := w) hS hW 55 dX11_standsAt_15 (by decide) rfl hi2 rfl ?_
    refine e_iload_n (pc := 16) (i := 1) dX11_standsAt_16 rfl rfl ?_
    refine e_icmp_ne (pc := 17) (tgt := 22) dX11_standsAt_17 (by decide) (fun h3 => ?_) (fun h3 => ?_)
    · replace hv := hv.1 h3
      refine e_iinc (pc := 22) (v := l2 + 1) (lv' := [(0, vR m), (1, vI l1), (2, vI (l2 + 1))]) dX11_standsAt_22 rfl rfl (by decide) rfl ?_
      refine e_goto (pc := 25) (tgt := 2) dX11_standsAt_25 (by decide) ?_
      exact hv w hW
    · replace hv := hv.2 h3
      refine e_iload_n (pc := 20) (i := 2) dX11_standsAt_20 rfl rfl ?_
      exact e_ireturn (pc := 21) dX11_standsAt_21 rfl ⟨r, hW, _, rfl, hv⟩
set_option maxRecDepth 100000 in
set_option maxHeartbeats 4000000 in
theorem pX11_standsAt (X : Cx) (w0 : Wd) (m : Nat) (hS : Sh w0 m) (A : Int32 → Rs → Prop) (a1 : Int32) (r : Rs)
    (hv : iX11_standsAt_2 X w0 m A a1 0 r) :
    CM X w0 m bX11_standsAt mX11_standsAt [vI a1] r (pI A) := by
  intro w hW
  refine Ct.of (Q := qM w0 m (pI A)) (lv := [(0, vR m), (1, vI a1)]) rfl (Nat.le_of_ble_eq_true rfl) rfl ?_
  refine e_iconst (pc := 0) (v := 0) dX11_standsAt_0 (by decide) ?_
  refine e_istore_n (pc := 1) (i := 2) (lv' := [(0, vR m), (1, vI a1), (2, vI 0)]) dX11_standsAt_1 rfl (by decide) rfl ?_
  exact hv w hW
