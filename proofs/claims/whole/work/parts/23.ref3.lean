abbrev iX11_orderOn_13 (X : Cx) (w0 : Wd) (m : Nat) (A : Rs → Prop) (l1 : Int32) (l2 : Int32) (l3 : Int32) (r : Rs) : Prop := ∀ w, Wm w0 m r w → EJ X mX11_orderOn (vw X bX11_orderOn (qM w0 m (pV A))) 0 0 13 [(0, vR m), (1, vI l1), (2, vI l2), (3, vI l3)] [] w
abbrev iX11_orderOn_80 (X : Cx) (w0 : Wd) (m : Nat) (A : Rs → Prop) (l1 : Int32) (l2 : Int32) (l3 : Int32) (r : Rs) : Prop := ∀ w, Wm w0 m r w → EJ X mX11_orderOn (vw X bX11_orderOn (qM w0 m (pV A))) 0 0 80 [(0, vR m), (1, vI l1), (2, vI l2), (3, vI l3)] [] w
set_option maxRecDepth 100000 in
set_option maxHeartbeats 4000000 in
theorem rX11_orderOn_80 (X : Cx) (w0 : Wd) (m : Nat) (hS : Sh w0 m) (A : Rs → Prop) (l1 : Int32) (l2 : Int32) (l3 : Int32) (r : Rs)
    (hv : (((sS r 38) < l3) → A r) ∧ ((¬ (sS r 38) < l3) → vp_in l3 101 ∧ vp_in (rI r 31 l3.toNatClampNeg) 301 ∧ ((¬ (rI r 4 (rI r 31 l3.toNatClampNeg).toNatClampNeg) = l1) → iX11_orderOn_80 X w0 m A l1 l2 (l3 + 1) r) ∧ (((rI r 4 (rI r 31 l3.toNatClampNeg).toNatClampNeg) = l1) → CM X w0 m bX11_isPosted mX11_isPosted [vI l3, vI l2] r (pI fun x5 r7 => ((¬ x5 = 0) → vp_in l3 101 ∧ vp_in (rI r7 31 l3.toNatClampNeg) 301 ∧ CM X w0 m bX11_standsAt mX11_standsAt [vI (rI r7 5 (rI r7 31 l3.toNatClampNeg).toNatClampNeg)] r7 (pI fun x11 r13 => vp_in l3 101 ∧ vp_in (rI r13 32 l3.toNatClampNeg) 301 ∧ CM X w0 m bX11_standsAt mX11_standsAt [vI (rI r13 5 (rI r13 32 l3.toNatClampNeg).toNatClampNeg)] r13 (pI fun x16 r18 => ((x16 ≤ x11) → iX11_orderOn_80 X w0 m A l1 l2 (l3 + 1) r18) ∧ ((¬ x16 ≤ x11) → vp_in x11 301 ∧ vp_in x16 301 ∧ vp_in x11 301 ∧ ∀ r23 : Rs, r23 = uI r18 55 x11.toNatClampNeg (rI r18 55 x16.toNatClampNeg) → vp_in x16 301 ∧ ∀ r26 : Rs, r26 = uI r23 55 x16.toNatClampNeg (rI r18 55 x11.toNatClampNeg) → vp_in x11 301 ∧ vp_in (rI r26 55 x11.toNatClampNeg) 301 ∧ vp_in (rI r26 55 x11.toNatClampNeg) 301 ∧ ∀ r31 : Rs, r31 = uI r26 56 (rI r26 55 x11.toNatClampNeg).toNatClampNeg ((rI r26 56 (rI r26 55 x11.toNatClampNeg).toNatClampNeg) + 1) → vp_in x16 301 ∧ vp_in (rI r31 55 x16.toNatClampNeg) 301 ∧ vp_in (rI r31 55 x16.toNatClampNeg) 301 ∧ ∀ r36 : Rs, r36 = uI r31 56 (rI r31 55 x16.toNatClampNeg).toNatClampNeg ((rI r31 56 (rI r31 55 x16.toNatClampNeg).toNatClampNeg) + 1) → iX11_orderOn_80 X w0 m A l1 l2 (l3 + 1) r36)))) ∧ ((x5 = 0) → iX11_orderOn_80 X w0 m A l1 l2 (l3 + 1) r7))))) :
    iX11_orderOn_80 X w0 m A l1 l2 l3 r := by
  intro w hW
  refine e_iload_n (pc := 80) (i := 3) dX11_orderOn_80 rfl rfl ?_
  refine e_aload_n (pc := 81) (i := 0) dX11_orderOn_81 rfl rfl ?_
  refine n_getS (pc := 82) hS hW 38 dX11_orderOn_82 fRX11_275 rfl ?_
  refine e_icmp_gt (pc := 85) (tgt := 226) dX11_orderOn_85 (by decide) (fun h1 => ?_) (fun h1 => ?_)
  · replace hv := hv.1 h1
    exact e_vreturn (pc := 226) dX11_orderOn_226 rfl ⟨r, hW, rfl, hv⟩
  · replace hv := hv.2 h1
    refine e_aload_n (pc := 88) (i := 0) dX11_orderOn_88 rfl rfl ?_
    refine n_get (pc := 89) hS hW 4 dX11_orderOn_89 fRX11_20 rfl ?_
    refine e_aload_n (pc := 92) (i := 0) dX11_orderOn_92 rfl rfl ?_
    refine n_get (pc := 93) hS hW 31 dX11_orderOn_93 fRX11_99 rfl ?_
    refine e_iload_n (pc := 96) (i := 3) dX11_orderOn_96 rfl rfl ?_
    have hi2 : vp_in l3 101 := hv.1
    replace hv := hv.2
    refine n_iald (pc := 97) (wa := w) hS hW 31 dX11_orderOn_97 (by decide) rfl hi2 rfl ?_
    have hi3 : vp_in (rI r 31 l3.toNatClampNeg) 301 := hv.1
    replace hv := hv.2
    refine n_iald (pc := 98) (wa := w) hS hW 4 dX11_orderOn_98 (by decide) rfl hi3 rfl ?_
    refine e_iload_n (pc := 99) (i := 1) dX11_orderOn_99 rfl rfl ?_
    refine e_icmp_ne (pc := 100) (tgt := 220) dX11_orderOn_100 (by decide) (fun h4 => ?_) (fun h4 => ?_)
    · replace hv := hv.1 h4
      refine e_iinc (pc := 220) (v := l3 + 1) (lv' := [(0, vR m), (1, vI l1), (2, vI l2), (3, vI (l3 + 1))]) dX11_orderOn_220 rfl rfl (by decide) rfl ?_
      refine e_goto (pc := 223) (tgt := 80) dX11_orderOn_223 (by decide) ?_
      exact hv w hW
    · replace hv := hv.2 h4
      refine e_aload_n (pc := 103) (i := 0) dX11_orderOn_103 rfl rfl ?_
      refine e_iload_n (pc := 104) (i := 3) dX11_orderOn_104 rfl rfl ?_
      refine e_iload_n (pc := 105) (i := 2) dX11_orderOn_105 rfl rfl ?_
      refine e_callV (pc := 106) (ci := 11) (st := []) (rc' := 0) (rs' := 0) (B' := bX11_isPosted) [vI l3, vI l2] dX11_orderOn_106 vRX11_322 kX11_isPosted (by decide) rfl (hW.K hS) rfl rfl (Nat.le_of_ble_eq_true rfl) ⟨Nat.le_of_ble_eq_true rfl, Nat.le_of_ble_eq_true rfl⟩ rfl rfl (hv w hW) (fun zx5 w6 hq => ?_)
      obtain ⟨r7, hw6, x5, ex5, hv⟩ := hq
      subst ex5
      show EJ X mX11_orderOn _ 0 0 _ _ (vI x5 :: []) w6
      refine e_if_ne (pc := 109) (tgt := 115) dX11_orderOn_109 (by decide) (fun h8 => ?_) (fun h8 => ?_)
      · replace hv := hv.1 h8
        refine e_aload_n (pc := 115) (i := 0) dX11_orderOn_115 rfl rfl ?_
        refine e_aload_n (pc := 116) (i := 0) dX11_orderOn_116 rfl rfl ?_
        refine n_get (pc := 117) hS hw6 5 dX11_orderOn_117 fRX11_23 rfl ?_
        refine e_aload_n (pc := 120) (i := 0) dX11_orderOn_120 rfl rfl ?_
        refine n_get (pc := 121) hS hw6 31 dX11_orderOn_121 fRX11_99 rfl ?_
        refine e_iload_n (pc := 124) (i := 3) dX11_orderOn_124 rfl rfl ?_
        have hi9 : vp_in l3 101 := hv.1
        replace hv := hv.2
        refine n_iald (pc := 125) (wa := w6) hS hw6 31 dX11_orderOn_125 (by decide) rfl hi9 rfl ?_
        have hi10 : vp_in (rI r7 31 l3.toNatClampNeg) 301 := hv.1
        replace hv := hv.2
        refine n_iald (pc := 126) (wa := w6) hS hw6 5 dX11_orderOn_126 (by decide) rfl hi10 rfl ?_
        refine e_callV (pc := 127) (ci := 11) (st := []) (rc' := 0) (rs' := 0) (B' := bX11_standsAt) [vI (rI r7 5 (rI r7 31 l3.toNatClampNeg).toNatClampNeg)] dX11_orderOn_127 vRX11_319 kX11_standsAt (by decide) rfl (hw6.K hS) rfl rfl (Nat.le_of_ble_eq_true rfl) ⟨Nat.le_of_ble_eq_true rfl, Nat.le_of_ble_eq_true rfl⟩ rfl rfl (hv w6 hw6) (fun zx11 w12 hq => ?_)
        obtain ⟨r13, hw12, x11, ex11, hv⟩ := hq
        subst ex11
        show EJ X mX11_orderOn _ 0 0 _ _ (vI x11 :: []) w12
        refine e_istore (pc := 130) (i := 4) (lv' := [(0, vR m), (1, vI l1), (2, vI l2), (3, vI l3), (4, vI x11)]) dX11_orderOn_130 (by decide) rfl ?_
        refine e_aload_n (pc := 132) (i := 0) dX11_orderOn_132 rfl rfl ?_
        refine e_aload_n (pc := 133) (i := 0) dX11_orderOn_133 rfl rfl ?_
        refine n_get (pc := 134) hS hw12 5 dX11_orderOn_134 fRX11_23 rfl ?_
        refine e_aload_n (pc := 137) (i := 0) dX11_orderOn_137 rfl rfl ?_
        refine n_get (pc := 138) hS hw12 32 dX11_orderOn_138 fRX11_102 rfl ?_
        refine e_iload_n (pc := 141) (i := 3) dX11_orderOn_141 rfl rfl ?_
        have hi14 : vp_in l3 101 := hv.1
        replace hv := hv.2
        refine n_iald (pc := 142) (wa := w12) hS hw12 32 dX11_orderOn_142 (by decide) rfl hi14 rfl ?_
        have hi15 : vp_in (rI r13 32 l3.toNatClampNeg) 301 := hv.1
        replace hv := hv.2
        refine n_iald (pc := 143) (wa := w12) hS hw12 5 dX11_orderOn_143 (by decide) rfl hi15 rfl ?_
        refine e_callV (pc := 144) (ci := 11) (st := []) (rc' := 0) (rs' := 0) (B' := bX11_standsAt) [vI (rI r13 5 (rI r13 32 l3.toNatClampNeg).toNatClampNeg)] dX11_orderOn_144 vRX11_319 kX11_standsAt (by decide) rfl (hw12.K hS) rfl rfl (Nat.le_of_ble_eq_true rfl) ⟨Nat.le_of_ble_eq_true rfl, Nat.le_of_ble_eq_true rfl⟩ rfl rfl (hv w12 hw12) (fun zx16 w17 hq => ?_)
        obtain ⟨r18, hw17, x16, ex16, hv⟩ := hq
        subst ex16
        show EJ X mX11_orderOn _ 0 0 _ _ (vI x16 :: []) w17
        refine e_istore (pc := 147) (i := 5) (lv' := [(0, vR m), (1, vI l1), (2, vI l2), (3, vI l3), (4, vI x11), (5, vI x16)]) dX11_orderOn_147 (by decide) rfl ?_
        refine e_iload (pc := 149) (i := 4) dX11_orderOn_149 rfl ?_
        refine e_iload (pc := 151) (i := 5) dX11_orderOn_151 rfl ?_
        refine e_icmp_ge (pc := 153) (tgt := 220) dX11_orderOn_153 (by decide) (fun h19 => ?_) (fun h19 => ?_)
        · replace hv := hv.1 h19
          refine e_iinc (pc := 220) (v := l3 + 1) (lv' := [(0, vR m), (1, vI l1), (2, vI l2), (3, vI (l3 + 1)), (4, vI x11), (5, vI x16)]) dX11_orderOn_220 rfl rfl (by decide) rfl ?_
          refine e_goto (pc := 223) (tgt := 80) dX11_orderOn_223 (by decide) ?_
          exact EJ.drop [0, 1, 2, 3] rfl (hv w17 hw17)
        · replace hv := hv.2 h19
          refine e_aload_n (pc := 156) (i := 0) dX11_orderOn_156 rfl rfl ?_
          refine n_get (pc := 157) hS hw17 55 dX11_orderOn_157 fRX11_142 rfl ?_
          refine e_iload (pc := 160) (i := 4) dX11_orderOn_160 rfl ?_
          have hi20 : vp_in x11 301 := hv.1
          replace hv := hv.2
          refine n_iald (pc := 162) (wa := w17) hS hw17 55 dX11_orderOn_162 (by decide) rfl hi20 rfl ?_
          refine e_istore (pc := 163) (i := 6) (lv' := [(0, vR m), (1, vI l1), (2, vI l2), (3, vI l3), (4, vI x11), (5, vI x16), (6, vI (rI r18 55 x11.toNatClampNeg))]) dX11_orderOn_163 (by decide) rfl ?_
          refine e_aload_n (pc := 165) (i := 0) dX11_orderOn_165 rfl rfl ?_
          refine n_get (pc := 166) hS hw17 55 dX11_orderOn_166 fRX11_142 rfl ?_
          refine e_iload (pc := 169) (i := 4) dX11_orderOn_169 rfl ?_
          refine e_aload_n (pc := 171) (i := 0) dX11_orderOn_171 rfl rfl ?_
          refine n_get (pc := 172) hS hw17 55 dX11_orderOn_172 fRX11_142 rfl ?_
          refine e_iload (pc := 175) (i := 5) dX11_orderOn_175 rfl ?_
          have hi21 : vp_in x16 301 := hv.1
          replace hv := hv.2
          refine n_iald (pc := 177) (wa := w17) hS hw17 55 dX11_orderOn_177 (by decide) rfl hi21 rfl ?_
          have hi22 : vp_in x11 301 := hv.1
          replace hv := hv.2
          refine n_iast (pc := 178) (wa := w17) hS hw17 55 dX11_orderOn_178 (by decide) rfl hi22 rfl (fun w24 hw24 => ?_)
          obtain ⟨r23, er23⟩ : ∃ r23 : Rs, r23 = uI r18 55 x11.toNatClampNeg (rI r18 55 x16.toNatClampNeg) := ⟨_, rfl⟩
          replace hv := hv r23 er23
          rw [← er23] at hw24
          refine e_aload_n (pc := 179) (i := 0) dX11_orderOn_179 rfl rfl ?_
          refine n_get (pc := 180) hS hw24 55 dX11_orderOn_180 fRX11_142 rfl ?_
          refine e_iload (pc := 183) (i := 5) dX11_orderOn_183 rfl ?_
          refine e_iload (pc := 185) (i := 6) dX11_orderOn_185 rfl ?_
          have hi25 : vp_in x16 301 := hv.1
          replace hv := hv.2
          refine n_iast (pc := 187) (wa := w24) hS hw24 55 dX11_orderOn_187 (by decide) rfl hi25 rfl (fun w27 hw27 => ?_)
          obtain ⟨r26, er26⟩ : ∃ r26 : Rs, r26 = uI r23 55 x16.toNatClampNeg (rI r18 55 x11.toNatClampNeg) := ⟨_, rfl⟩
          replace hv := hv r26 er26
          rw [← er26] at hw27
          refine e_aload_n (pc := 188) (i := 0) dX11_orderOn_188 rfl rfl ?_
          refine n_get (pc := 189) hS hw27 56 dX11_orderOn_189 fRX11_145 rfl ?_
          refine e_aload_n (pc := 192) (i := 0) dX11_orderOn_192 rfl rfl ?_
          refine n_get (pc := 193) hS hw27 55 dX11_orderOn_193 fRX11_142 rfl ?_
          refine e_iload (pc := 196) (i := 4) dX11_orderOn_196 rfl ?_
          have hi28 : vp_in x11 301 := hv.1
          replace hv := hv.2
          refine n_iald (pc := 198) (wa := w27) hS hw27 55 dX11_orderOn_198 (by decide) rfl hi28 rfl ?_
          refine e_dup2_11 (pc := 199) dX11_orderOn_199 rfl rfl ?_
          have hi29 : vp_in (rI r26 55 x11.toNatClampNeg) 301 := hv.1
          replace hv := hv.2
          refine n_iald (pc := 200) (wa := w27) hS hw27 56 dX11_orderOn_200 (by decide) rfl hi29 rfl ?_
          refine e_iconst (pc := 201) (v := 1) dX11_orderOn_201 (by decide) ?_
          refine e_iadd (pc := 202) dX11_orderOn_202 ?_
          have hi30 : vp_in (rI r26 55 x11.toNatClampNeg) 301 := hv.1
          replace hv := hv.2
          refine n_iast (pc := 203) (wa := w27) hS hw27 56 dX11_orderOn_203 (by decide) rfl hi30 rfl (fun w32 hw32 => ?_)
          obtain ⟨r31, er31⟩ : ∃ r31 : Rs, r31 = uI r26 56 (rI r26 55 x11.toNatClampNeg).toNatClampNeg ((rI r26 56 (rI r26 55 x11.toNatClampNeg).toNatClampNeg) + 1) := ⟨_, rfl⟩
          replace hv := hv r31 er31
          rw [← er31] at hw32
          refine e_aload_n (pc := 204) (i := 0) dX11_orderOn_204 rfl rfl ?_
          refine n_get (pc := 205) hS hw32 56 dX11_orderOn_205 fRX11_145 rfl ?_
          refine e_aload_n (pc := 208) (i := 0) dX11_orderOn_208 rfl rfl ?_
          refine n_get (pc := 209) hS hw32 55 dX11_orderOn_209 fRX11_142 rfl ?_
          refine e_iload (pc := 212) (i := 5) dX11_orderOn_212 rfl ?_
          have hi33 : vp_in x16 301 := hv.1
          replace hv := hv.2
          refine n_iald (pc := 214) (wa := w32) hS hw32 55 dX11_orderOn_214 (by decide) rfl hi33 rfl ?_
          refine e_dup2_11 (pc := 215) dX11_orderOn_215 rfl rfl ?_
          have hi34 : vp_in (rI r31 55 x16.toNatClampNeg) 301 := hv.1
          replace hv := hv.2
          refine n_iald (pc := 216) (wa := w32) hS hw32 56 dX11_orderOn_216 (by decide) rfl hi34 rfl ?_
          refine e_iconst (pc := 217) (v := 1) dX11_orderOn_217 (by decide) ?_
          refine e_iadd (pc := 218) dX11_orderOn_218 ?_
          have hi35 : vp_in (rI r31 55 x16.toNatClampNeg) 301 := hv.1
          replace hv := hv.2
          refine n_iast (pc := 219) (wa := w32) hS hw32 56 dX11_orderOn_219 (by decide) rfl hi35 rfl (fun w37 hw37 => ?_)
          obtain ⟨r36, er36⟩ : ∃ r36 : Rs, r36 = uI r31 56 (rI r31 55 x16.toNatClampNeg).toNatClampNeg ((rI r31 56 (rI r31 55 x16.toNatClampNeg).toNatClampNeg) + 1) := ⟨_, rfl⟩
          replace hv := hv r36 er36
          rw [← er36] at hw37
          refine e_iinc (pc := 220) (v := l3 + 1) (lv' := [(0, vR m), (1, vI l1), (2, vI l2), (3, vI (l3 + 1)), (4, vI x11), (5, vI x16), (6, vI (rI r18 55 x11.toNatClampNeg))]) dX11_orderOn_220 rfl rfl (by decide) rfl ?_
          refine e_goto (pc := 223) (tgt := 80) dX11_orderOn_223 (by decide) ?_
          exact EJ.drop [0, 1, 2, 3] rfl (hv w37 hw37)
      · replace hv := hv.2 h8
        refine e_goto (pc := 112) (tgt := 220) dX11_orderOn_112 (by decide) ?_
        refine e_iinc (pc := 220) (v := l3 + 1) (lv' := [(0, vR m), (1, vI l1), (2, vI l2), (3, vI (l3 + 1))]) dX11_orderOn_220 rfl rfl (by decide) rfl ?_
        refine e_goto (pc := 223) (tgt := 80) dX11_orderOn_223 (by decide) ?_
        exact hv w6 hw6
set_option maxRecDepth 100000 in
set_option maxHeartbeats 4000000 in
theorem rX11_orderOn_13 (X : Cx) (w0 : Wd) (m : Nat) (hS : Sh w0 m) (A : Rs → Prop) (l1 : Int32) (l2 : Int32) (l3 : Int32) (r : Rs)
    (hv : (((sS r 57) ≤ l3) → iX11_orderOn_80 X w0 m A l1 l2 1 r) ∧ ((¬ (sS r 57) ≤ l3) → vp_in l3 602 ∧ CM X w0 m bX11_standsAt mX11_standsAt [vI (rI r 53 l3.toNatClampNeg)] r (pI fun x3 r5 => ((¬ x3 = (-1)) → iX11_orderOn_13 X w0 m A l1 l2 (l3 + 1) r5) ∧ ((x3 = (-1)) → vp_in l3 602 ∧ vp_in (sS r5 58) 301 ∧ ∀ r9 : Rs, r9 = uI r5 55 (sS r5 58).toNatClampNeg (rI r5 53 l3.toNatClampNeg) → vp_in l3 602 ∧ vp_in (rI r9 53 l3.toNatClampNeg) 301 ∧ ∀ r13 : Rs, r13 = uI r9 56 (rI r9 53 l3.toNatClampNeg).toNatClampNeg 0 → ∀ r15 : Rs, r15 = uS r13 58 ((sS r13 58) + 1) → iX11_orderOn_13 X w0 m A l1 l2 (l3 + 1) r15)))) :
    iX11_orderOn_13 X w0 m A l1 l2 l3 r := by
  intro w hW
  refine e_iload_n (pc := 13) (i := 3) dX11_orderOn_13 rfl rfl ?_
  refine e_aload_n (pc := 14) (i := 0) dX11_orderOn_14 rfl rfl ?_
  refine n_getS (pc := 15) hS hW 57 dX11_orderOn_15 fRX11_302 rfl ?_
  refine e_icmp_ge (pc := 18) (tgt := 78) dX11_orderOn_18 (by decide) (fun h1 => ?_) (fun h1 => ?_)
  · replace hv := hv.1 h1
    refine e_iconst (pc := 78) (v := 1) dX11_orderOn_78 (by decide) ?_
    refine e_istore_n (pc := 79) (i := 3) (lv' := [(0, vR m), (1, vI l1), (2, vI l2), (3, vI 1)]) dX11_orderOn_79 rfl (by decide) rfl ?_
    exact hv w hW
  · replace hv := hv.2 h1
    refine e_aload_n (pc := 21) (i := 0) dX11_orderOn_21 rfl rfl ?_
    refine e_aload_n (pc := 22) (i := 0) dX11_orderOn_22 rfl rfl ?_
    refine n_get (pc := 23) hS hW 53 dX11_orderOn_23 fRX11_136 rfl ?_
    refine e_iload_n (pc := 26) (i := 3) dX11_orderOn_26 rfl rfl ?_
    have hi2 : vp_in l3 602 := hv.1
    replace hv := hv.2
    refine n_iald (pc := 27) (wa := w) hS hW 53 dX11_orderOn_27 (by decide) rfl hi2 rfl ?_
    refine e_callV (pc := 28) (ci := 11) (st := []) (rc' := 0) (rs' := 0) (B' := bX11_standsAt) [vI (rI r 53 l3.toNatClampNeg)] dX11_orderOn_28 vRX11_319 kX11_standsAt (by decide) rfl (hW.K hS) rfl rfl (Nat.le_of_ble_eq_true rfl) ⟨Nat.le_of_ble_eq_true rfl, Nat.le_of_ble_eq_true rfl⟩ rfl rfl (hv w hW) (fun zx3 w4 hq => ?_)
    obtain ⟨r5, hw4, x3, ex3, hv⟩ := hq
    subst ex3
    show EJ X mX11_orderOn _ 0 0 _ _ (vI x3 :: []) w4
    refine e_iconst (pc := 31) (v := (-1)) dX11_orderOn_31 (by decide) ?_
    refine e_icmp_ne (pc := 32) (tgt := 72) dX11_orderOn_32 (by decide) (fun h6 => ?_) (fun h6 => ?_)
    · replace hv := hv.1 h6
      refine e_iinc (pc := 72) (v := l3 + 1) (lv' := [(0, vR m), (1, vI l1), (2, vI l2), (3, vI (l3 + 1))]) dX11_orderOn_72 rfl rfl (by decide) rfl ?_
      refine e_goto (pc := 75) (tgt := 13) dX11_orderOn_75 (by decide) ?_
      exact hv w4 hw4
    · replace hv := hv.2 h6
      refine e_aload_n (pc := 35) (i := 0) dX11_orderOn_35 rfl rfl ?_
      refine n_get (pc := 36) hS hw4 55 dX11_orderOn_36 fRX11_142 rfl ?_
      refine e_aload_n (pc := 39) (i := 0) dX11_orderOn_39 rfl rfl ?_
      refine n_getS (pc := 40) hS hw4 58 dX11_orderOn_40 fRX11_313 rfl ?_
      refine e_aload_n (pc := 43) (i := 0) dX11_orderOn_43 rfl rfl ?_
      refine n_get (pc := 44) hS hw4 53 dX11_orderOn_44 fRX11_136 rfl ?_
      refine e_iload_n (pc := 47) (i := 3) dX11_orderOn_47 rfl rfl ?_
      have hi7 : vp_in l3 602 := hv.1
      replace hv := hv.2
      refine n_iald (pc := 48) (wa := w4) hS hw4 53 dX11_orderOn_48 (by decide) rfl hi7 rfl ?_
      have hi8 : vp_in (sS r5 58) 301 := hv.1
      replace hv := hv.2
      refine n_iast (pc := 49) (wa := w4) hS hw4 55 dX11_orderOn_49 (by decide) rfl hi8 rfl (fun w10 hw10 => ?_)
      obtain ⟨r9, er9⟩ : ∃ r9 : Rs, r9 = uI r5 55 (sS r5 58).toNatClampNeg (rI r5 53 l3.toNatClampNeg) := ⟨_, rfl⟩
      replace hv := hv r9 er9
      rw [← er9] at hw10
      refine e_aload_n (pc := 50) (i := 0) dX11_orderOn_50 rfl rfl ?_
      refine n_get (pc := 51) hS hw10 56 dX11_orderOn_51 fRX11_145 rfl ?_
      refine e_aload_n (pc := 54) (i := 0) dX11_orderOn_54 rfl rfl ?_
      refine n_get (pc := 55) hS hw10 53 dX11_orderOn_55 fRX11_136 rfl ?_
      refine e_iload_n (pc := 58) (i := 3) dX11_orderOn_58 rfl rfl ?_
      have hi11 : vp_in l3 602 := hv.1
      replace hv := hv.2
      refine n_iald (pc := 59) (wa := w10) hS hw10 53 dX11_orderOn_59 (by decide) rfl hi11 rfl ?_
      refine e_iconst (pc := 60) (v := 0) dX11_orderOn_60 (by decide) ?_
      have hi12 : vp_in (rI r9 53 l3.toNatClampNeg) 301 := hv.1
      replace hv := hv.2
      refine n_iast (pc := 61) (wa := w10) hS hw10 56 dX11_orderOn_61 (by decide) rfl hi12 rfl (fun w14 hw14 => ?_)
      obtain ⟨r13, er13⟩ : ∃ r13 : Rs, r13 = uI r9 56 (rI r9 53 l3.toNatClampNeg).toNatClampNeg 0 := ⟨_, rfl⟩
      replace hv := hv r13 er13
      rw [← er13] at hw14
      refine e_aload_n (pc := 62) (i := 0) dX11_orderOn_62 rfl rfl ?_
      refine e_dup (pc := 63) dX11_orderOn_63 rfl ?_
      refine n_getS (pc := 64) hS hw14 58 dX11_orderOn_64 fRX11_313 rfl ?_
      refine e_iconst (pc := 67) (v := 1) dX11_orderOn_67 (by decide) ?_
      refine e_iadd (pc := 68) dX11_orderOn_68 ?_
      refine n_putS (pc := 69) hS hw14 58 dX11_orderOn_69 fRX11_313 rfl rfl (fun w16 hw16 => ?_)
      obtain ⟨r15, er15⟩ : ∃ r15 : Rs, r15 = uS r13 58 ((sS r13 58) + 1) := ⟨_, rfl⟩
      replace hv := hv r15 er15
      rw [← er15] at hw16
      refine e_iinc (pc := 72) (v := l3 + 1) (lv' := [(0, vR m), (1, vI l1), (2, vI l2), (3, vI (l3 + 1))]) dX11_orderOn_72 rfl rfl (by decide) rfl ?_
      refine e_goto (pc := 75) (tgt := 13) dX11_orderOn_75 (by decide) ?_
      exact hv w16 hw16
set_option maxRecDepth 100000 in
set_option maxHeartbeats 4000000 in
theorem pX11_orderOn (X : Cx) (w0 : Wd) (m : Nat) (hS : Sh w0 m) (A : Rs → Prop) (a1 : Int32) (a2 : Int32) (r : Rs)
    (hv : CM X w0 m bX11_placesOn mX11_placesOn [vI a1, vI a2] r (pV fun r3 => ∀ r4 : Rs, r4 = uS r3 58 0 → iX11_orderOn_13 X w0 m A a1 a2 0 r4)) :
    CM X w0 m bX11_orderOn mX11_orderOn [vI a1, vI a2] r (pV A) := by
  intro w hW
  refine Ct.of (Q := qM w0 m (pV A)) (lv := [(0, vR m), (1, vI a1), (2, vI a2)]) rfl (Nat.le_of_ble_eq_true rfl) rfl ?_
  refine e_aload_n (pc := 0) (i := 0) dX11_orderOn_0 rfl rfl ?_
  refine e_iload_n (pc := 1) (i := 1) dX11_orderOn_1 rfl rfl ?_
  refine e_iload_n (pc := 2) (i := 2) dX11_orderOn_2 rfl rfl ?_
  refine e_callV (pc := 3) (ci := 11) (st := []) (rc' := 0) (rs' := 0) (B' := bX11_placesOn) [vI a1, vI a2] dX11_orderOn_3 vRX11_316 kX11_placesOn (by decide) rfl (hW.K hS) rfl rfl (Nat.le_of_ble_eq_true rfl) ⟨Nat.le_of_ble_eq_true rfl, Nat.le_of_ble_eq_true rfl⟩ rfl rfl (hv w hW) (fun zx1 w2 hq => ?_)
  obtain ⟨r3, hw2, ex1, hv⟩ := hq
  subst ex1
  show EJ X mX11_orderOn _ 0 0 _ _ [] w2
  refine e_aload_n (pc := 6) (i := 0) dX11_orderOn_6 rfl rfl ?_
  refine e_iconst (pc := 7) (v := 0) dX11_orderOn_7 (by decide) ?_
  refine n_putS (pc := 8) hS hw2 58 dX11_orderOn_8 fRX11_313 rfl rfl (fun w5 hw5 => ?_)
  obtain ⟨r4, er4⟩ : ∃ r4 : Rs, r4 = uS r3 58 0 := ⟨_, rfl⟩
  replace hv := hv r4 er4
  rw [← er4] at hw5
  refine e_iconst (pc := 11) (v := 0) dX11_orderOn_11 (by decide) ?_
  refine e_istore_n (pc := 12) (i := 3) (lv' := [(0, vR m), (1, vI a1), (2, vI a2), (3, vI 0)]) dX11_orderOn_12 rfl (by decide) rfl ?_
  exact hv w5 hw5
set_option maxRecDepth 100000 in
set_option maxHeartbeats 4000000 in
theorem pX11_many (X : Cx) (w0 : Wd) (m : Nat) (hS : Sh w0 m) (A : Int32 → Rs → Prop) (a1 : Int32) (a2 : Int32) (r : Rs)
    (hv : CM X w0 m bX11_wrong mX11_wrong [vI a1, vI a2] r (pI fun x1 r3 => ((x1 ≤ 0) → CM X w0 m bX11_now mX11_now [] r3 (pV fun r7 => CM X w0 m bX11_orderOn mX11_orderOn [vI a1, vI a2] r7 (pV fun r10 => ∀ r11 : Rs, r11 = uS r10 41 0 → A (sS r11 58) r11))) ∧ ((¬ x1 ≤ 0) → CM X w0 m bX11_refuse mX11_refuse [vI x1] r3 (pI fun x13 r15 => A x13 r15)))) :
    CM X w0 m bX11_many mX11_many [vI a1, vI a2] r (pI A) := by
  intro w hW
  refine Ct.of (Q := qM w0 m (pI A)) (lv := [(0, vR m), (1, vI a1), (2, vI a2)]) rfl (Nat.le_of_ble_eq_true rfl) rfl ?_
  refine e_aload_n (pc := 0) (i := 0) dX11_many_0 rfl rfl ?_
  refine e_iload_n (pc := 1) (i := 1) dX11_many_1 rfl rfl ?_
  refine e_iload_n (pc := 2) (i := 2) dX11_many_2 rfl rfl ?_
  refine e_callV (pc := 3) (ci := 11) (st := []) (rc' := 0) (rs' := 0) (B' := bX11_wrong) [vI a1, vI a2] dX11_many_3 vRX11_235 kX11_wrong (by decide) rfl (hW.K hS) rfl rfl (Nat.le_of_ble_eq_true rfl) ⟨Nat.le_of_ble_eq_true rfl, Nat.le_of_ble_eq_true rfl⟩ rfl rfl (hv w hW) (fun zx1 w2 hq => ?_)
  obtain ⟨r3, hw2, x1, ex1, hv⟩ := hq
  subst ex1
  show EJ X mX11_many _ 0 0 _ _ (vI x1 :: []) w2
  refine e_istore_n (pc := 6) (i := 3) (lv' := [(0, vR m), (1, vI a1), (2, vI a2), (3, vI x1)]) dX11_many_6 rfl (by decide) rfl ?_
  refine e_iload_n (pc := 7) (i := 3) dX11_many_7 rfl rfl ?_
  refine e_if_le (pc := 8) (tgt := 17) dX11_many_8 (by decide) (fun h4 => ?_) (fun h4 => ?_)
  · replace hv := hv.1 h4
    refine e_aload_n (pc := 17) (i := 0) dX11_many_17 rfl rfl ?_
    refine e_callV (pc := 18) (ci := 11) (st := []) (rc' := 0) (rs' := 0) (B' := bX11_now) [] dX11_many_18 vRX11_257 kX11_now (by decide) rfl (hw2.K hS) rfl rfl (Nat.le_of_ble_eq_true rfl) ⟨Nat.le_of_ble_eq_true rfl, Nat.le_of_ble_eq_true rfl⟩ rfl rfl (hv w2 hw2) (fun zx5 w6 hq => ?_)
    obtain ⟨r7, hw6, ex5, hv⟩ := hq
    subst ex5
    show EJ X mX11_many _ 0 0 _ _ [] w6
    refine e_aload_n (pc := 21) (i := 0) dX11_many_21 rfl rfl ?_
    refine e_iload_n (pc := 22) (i := 1) dX11_many_22 rfl rfl ?_
    refine e_iload_n (pc := 23) (i := 2) dX11_many_23 rfl rfl ?_
    refine e_callV (pc := 24) (ci := 11) (st := []) (rc' := 0) (rs' := 0) (B' := bX11_orderOn) [vI a1, vI a2] dX11_many_24 vRX11_325 kX11_orderOn (by decide) rfl (hw6.K hS) rfl rfl (Nat.le_of_ble_eq_true rfl) ⟨Nat.le_of_ble_eq_true rfl, Nat.le_of_ble_eq_true rfl⟩ rfl rfl (hv w6 hw6) (fun zx8 w9 hq => ?_)
    obtain ⟨r10, hw9, ex8, hv⟩ := hq
    subst ex8
    show EJ X mX11_many _ 0 0 _ _ [] w9
    refine e_aload_n (pc := 27) (i := 0) dX11_many_27 rfl rfl ?_
    refine e_iconst (pc := 28) (v := 0) dX11_many_28 (by decide) ?_
    refine n_putS (pc := 29) hS hw9 41 dX11_many_29 fRX11_163 rfl rfl (fun w12 hw12 => ?_)
    obtain ⟨r11, er11⟩ : ∃ r11 : Rs, r11 = uS r10 41 0 := ⟨_, rfl⟩
    replace hv := hv r11 er11
    rw [← er11] at hw12
    refine e_aload_n (pc := 32) (i := 0) dX11_many_32 rfl rfl ?_
    refine n_getS (pc := 33) hS hw12 58 dX11_many_33 fRX11_313 rfl ?_
    exact e_ireturn (pc := 36) dX11_many_36 rfl ⟨r11, hw12, _, rfl, hv⟩
  · replace hv := hv.2 h4
    refine e_aload_n (pc := 11) (i := 0) dX11_many_11 rfl rfl ?_
    refine e_iload_n (pc := 12) (i := 3) dX11_many_12 rfl rfl ?_
    refine e_callV (pc := 13) (ci := 11) (st := []) (rc' := 0) (rs' := 0) (B' := bX11_refuse) [vI x1] dX11_many_13 vRX11_231 kX11_refuse (by decide) rfl (hw2.K hS) rfl rfl (Nat.le_of_ble_eq_true rfl) ⟨Nat.le_of_ble_eq_true rfl, Nat.le_of_ble_eq_true rfl⟩ rfl rfl (hv w2 hw2) (fun zx13 w14 hq => ?_)
    obtain ⟨r15, hw14, x13, ex13, hv⟩ := hq
    subst ex13
    show EJ X mX11_many _ 0 0 _ _ (vI x13 :: []) w14
    exact e_ireturn (pc := 16) dX11_many_16 rfl ⟨r15, hw14, _, rfl, hv⟩
set_option maxRecDepth 100000 in
set_option maxHeartbeats 4000000 in
theorem pX11_list (X : Cx) (w0 : Wd) (m : Nat) (hS : Sh w0 m) (A : Int32 → Rs → Prop) (a1 : Int32) (a2 : Int32) (a3 : Int32) (r : Rs)
    (hv : CM X w0 m bX11_wrong mX11_wrong [vI a1, vI a2] r (pI fun x1 r3 => ((x1 ≤ 0) → CM X w0 m bX11_now mX11_now [] r3 (pV fun r7 => CM X w0 m bX11_orderOn mX11_orderOn [vI a1, vI a2] r7 (pV fun r10 => ((a3 < 0) → CM X w0 m bX11_refuse mX11_refuse [vI 5] r10 (pI fun x12 r14 => A x12 r14)) ∧ ((¬ a3 < 0) → ((a3 < (sS r10 58)) → ∀ r16 : Rs, r16 = uS r10 41 0 → vp_in a3 301 ∧ A (rI r16 55 a3.toNatClampNeg) r16) ∧ ((¬ a3 < (sS r10 58)) → CM X w0 m bX11_refuse mX11_refuse [vI 5] r10 (pI fun x19 r21 => A x19 r21)))))) ∧ ((¬ x1 ≤ 0) → CM X w0 m bX11_refuse mX11_refuse [vI x1] r3 (pI fun x22 r24 => A x22 r24)))) :
    CM X w0 m bX11_list mX11_list [vI a1, vI a2, vI a3] r (pI A) := by
  intro w hW
  refine Ct.of (Q := qM w0 m (pI A)) (lv := [(0, vR m), (1, vI a1), (2, vI a2), (3, vI a3)]) rfl (Nat.le_of_ble_eq_true rfl) rfl ?_
  refine e_aload_n (pc := 0) (i := 0) dX11_list_0 rfl rfl ?_
  refine e_iload_n (pc := 1) (i := 1) dX11_list_1 rfl rfl ?_
  refine e_iload_n (pc := 2) (i := 2) dX11_list_2 rfl rfl ?_
  refine e_callV (pc := 3) (ci := 11) (st := []) (rc' := 0) (rs' := 0) (B' := bX11_wrong) [vI a1, vI a2] dX11_list_3 vRX11_235 kX11_wrong (by decide) rfl (hW.K hS) rfl rfl (Nat.le_of_ble_eq_true rfl) ⟨Nat.le_of_ble_eq_true rfl, Nat.le_of_ble_eq_true rfl⟩ rfl rfl (hv w hW) (fun zx1 w2 hq => ?_)
  obtain ⟨r3, hw2, x1, ex1, hv⟩ := hq
  subst ex1
  show EJ X mX11_list _ 0 0 _ _ (vI x1 :: []) w2
  refine e_istore (pc := 6) (i := 4) (lv' := [(0, vR m), (1, vI a1), (2, vI a2), (3, vI a3), (4, vI x1)]) dX11_list_6 (by decide) rfl ?_
  refine e_iload (pc := 8) (i := 4) dX11_list_8 rfl ?_
  refine e_if_le (pc := 10) (tgt := 20) dX11_list_10 (by decide) (fun h4 => ?_) (fun h4 => ?_)
  · replace hv := hv.1 h4
    refine e_aload_n (pc := 20) (i := 0) dX11_list_20 rfl rfl ?_
    refine e_callV (pc := 21) (ci := 11) (st := []) (rc' := 0) (rs' := 0) (B' := bX11_now) [] dX11_list_21 vRX11_257 kX11_now (by decide) rfl (hw2.K hS) rfl rfl (Nat.le_of_ble_eq_true rfl) ⟨Nat.le_of_ble_eq_true rfl, Nat.le_of_ble_eq_true rfl⟩ rfl rfl (hv w2 hw2) (fun zx5 w6 hq => ?_)
    obtain ⟨r7, hw6, ex5, hv⟩ := hq
    subst ex5
    show EJ X mX11_list _ 0 0 _ _ [] w6
    refine e_aload_n (pc := 24) (i := 0) dX11_list_24 rfl rfl ?_
    refine e_iload_n (pc := 25) (i := 1) dX11_list_25 rfl rfl ?_
    refine e_iload_n (pc := 26) (i := 2) dX11_list_26 rfl rfl ?_
    refine e_callV (pc := 27) (ci := 11) (st := []) (rc' := 0) (rs' := 0) (B' := bX11_orderOn) [vI a1, vI a2] dX11_list_27 vRX11_325 kX11_orderOn (by decide) rfl (hw6.K hS) rfl rfl (Nat.le_of_ble_eq_true rfl) ⟨Nat.le_of_ble_eq_true rfl, Nat.le_of_ble_eq_true rfl⟩ rfl rfl (hv w6 hw6) (fun zx8 w9 hq => ?_)
    obtain ⟨r10, hw9, ex8, hv⟩ := hq
    subst ex8
    show EJ X mX11_list _ 0 0 _ _ [] w9
    refine e_iload_n (pc := 30) (i := 3) dX11_list_30 rfl rfl ?_
    refine e_if_lt (pc := 31) (tgt := 42) dX11_list_31 (by decide) (fun h11 => ?_) (fun h11 => ?_)
    · replace hv := hv.1 h11
      refine e_aload_n (pc := 42) (i := 0) dX11_list_42 rfl rfl ?_
      refine e_iconst (pc := 43) (v := 5) dX11_list_43 (by decide) ?_
      refine e_callV (pc := 44) (ci := 11) (st := []) (rc' := 0) (rs' := 0) (B' := bX11_refuse) [vI 5] dX11_list_44 vRX11_231 kX11_refuse (by decide) rfl (hw9.K hS) rfl rfl (Nat.le_of_ble_eq_true rfl) ⟨Nat.le_of_ble_eq_true rfl, Nat.le_of_ble_eq_true rfl⟩ rfl rfl (hv w9 hw9) (fun zx12 w13 hq => ?_)
      obtain ⟨r14, hw13, x12, ex12, hv⟩ := hq
      subst ex12
      show EJ X mX11_list _ 0 0 _ _ (vI x12 :: []) w13
      exact e_ireturn (pc := 47) dX11_list_47 rfl ⟨r14, hw13, _, rfl, hv⟩
    · replace hv := hv.2 h11
      refine e_iload_n (pc := 34) (i := 3) dX11_list_34 rfl rfl ?_
      refine e_aload_n (pc := 35) (i := 0) dX11_list_35 rfl rfl ?_
      refine n_getS (pc := 36) hS hw9 58 dX11_list_36 fRX11_313 rfl ?_
      refine e_icmp_lt (pc := 39) (tgt := 48) dX11_list_39 (by decide) (fun h15 => ?_) (fun h15 => ?_)
      · replace hv := hv.1 h15
        refine e_aload_n (pc := 48) (i := 0) dX11_list_48 rfl rfl ?_
        refine e_iconst (pc := 49) (v := 0) dX11_list_49 (by decide) ?_
        refine n_putS (pc := 50) hS hw9 41 dX11_list_50 fRX11_163 rfl rfl (fun w17 hw17 => ?_)
        obtain ⟨r16, er16⟩ : ∃ r16 : Rs, r16 = uS r10 41 0 := ⟨_, rfl⟩
        replace hv := hv r16 er16
        rw [← er16] at hw17
        refine e_aload_n (pc := 53) (i := 0) dX11_list_53 rfl rfl ?_
        refine n_get (pc := 54) hS hw17 55 dX11_list_54 fRX11_142 rfl ?_
        refine e_iload_n (pc := 57) (i := 3) dX11_list_57 rfl rfl ?_
        have hi18 : vp_in a3 301 := hv.1
        replace hv := hv.2
        refine n_iald (pc := 58) (wa := w17) hS hw17 55 dX11_list_58 (by decide) rfl hi18 rfl ?_
        exact e_ireturn (pc := 59) dX11_list_59 rfl ⟨r16, hw17, _, rfl, hv⟩
      · replace hv := hv.2 h15
        refine e_aload_n (pc := 42) (i := 0) dX11_list_42 rfl rfl ?_
        refine e_iconst (pc := 43) (v := 5) dX11_list_43 (by decide) ?_
        refine e_callV (pc := 44) (ci := 11) (st := []) (rc' := 0) (rs' := 0) (B' := bX11_refuse) [vI 5] dX11_list_44 vRX11_231 kX11_refuse (by decide) rfl (hw9.K hS) rfl rfl (Nat.le_of_ble_eq_true rfl) ⟨Nat.le_of_ble_eq_true rfl, Nat.le_of_ble_eq_true rfl⟩ rfl rfl (hv w9 hw9) (fun zx19 w20 hq => ?_)
        obtain ⟨r21, hw20, x19, ex19, hv⟩ := hq
        subst ex19
        show EJ X mX11_list _ 0 0 _ _ (vI x19 :: []) w20
        exact e_ireturn (pc := 47) dX11_list_47 rfl ⟨r21, hw20, _, rfl, hv⟩
  · replace hv := hv.2 h4
    refine e_aload_n (pc := 13) (i := 0) dX11_list_13 rfl rfl ?_
    refine e_iload (pc := 14) (i := 4) dX11_list_14 rfl ?_
    refine e_callV (pc := 16) (ci := 11) (st := []) (rc' := 0) (rs' := 0) (B' := bX11_refuse) [vI x1] dX11_list_16 vRX11_231 kX11_refuse (by decide) rfl (hw2.K hS) rfl rfl (Nat.le_of_ble_eq_true rfl) ⟨Nat.le_of_ble_eq_true rfl, Nat.le_of_ble_eq_true rfl⟩ rfl rfl (hv w2 hw2) (fun zx22 w23 hq => ?_)
    obtain ⟨r24, hw23, x22, ex22, hv⟩ := hq
    subst ex22
    show EJ X mX11_list _ 0 0 _ _ (vI x22 :: []) w23
    exact e_ireturn (pc := 19) dX11_list_19 rfl ⟨r24, hw23, _, rfl, hv⟩
set_option maxRecDepth 100000 in
set_option maxHeartbeats 4000000 in
theorem pX11_isRanked (X : Cx) (w0 : Wd) (m : Nat) (hS : Sh w0 m) (A : Int32 → Rs → Prop) (a1 : Int32) (a2 : Int32) (r : Rs)
    (hv : CM X w0 m bX11_isEntry mX11_isEntry [vI a1] r (pI fun x1 r3 => ((¬ x1 = 0) → vp_in a1 301 ∧ CM X w0 m bX11_wrong mX11_wrong [vI (rI r3 4 a1.toNatClampNeg), vI a2] r3 (pI fun x6 r8 => ((x6 ≤ 0) → CM X w0 m bX11_now mX11_now [] r8 (pV fun r12 => vp_in a1 301 ∧ (((rI r12 3 a1.toNatClampNeg) = 6) → CM X w0 m bX11_no mX11_no [vI 6] r12 (pI fun x15 r17 => (x15 = 0 ∨ x15 = 1) ∧ A x15 r17)) ∧ ((¬ (rI r12 3 a1.toNatClampNeg) = 6) → CM X w0 m bX11_lies mX11_lies [vI a1, vI a2] r12 (pI fun x18 r20 => ((¬ x18 = 0) → vp_in a1 301 ∧ CM X w0 m bX11_orderOn mX11_orderOn [vI (rI r20 4 a1.toNatClampNeg), vI a2] r20 (pV fun r25 => ∀ r26 : Rs, r26 = uS r25 41 0 → A 1 r26)) ∧ ((x18 = 0) → CM X w0 m bX11_no mX11_no [vI 6] r20 (pI fun x28 r30 => (x28 = 0 ∨ x28 = 1) ∧ A x28 r30)))))) ∧ ((¬ x6 ≤ 0) → CM X w0 m bX11_no mX11_no [vI x6] r8 (pI fun x31 r33 => (x31 = 0 ∨ x31 = 1) ∧ A x31 r33)))) ∧ ((x1 = 0) → CM X w0 m bX11_no mX11_no [vI 1] r3 (pI fun x34 r36 => (x34 = 0 ∨ x34 = 1) ∧ A x34 r36)))) :
    CM X w0 m bX11_isRanked mX11_isRanked [vI a1, vI a2] r (pI A) := by
  intro w hW
  refine Ct.of (Q := qM w0 m (pI A)) (lv := [(0, vR m), (1, vI a1), (2, vI a2)]) rfl (Nat.le_of_ble_eq_true rfl) rfl ?_
  refine e_aload_n (pc := 0) (i := 0) dX11_isRanked_0 rfl rfl ?_
  refine e_iload_n (pc := 1) (i := 1) dX11_isRanked_1 rfl rfl ?_
  refine e_callV (pc := 2) (ci := 11) (st := []) (rc' := 0) (rs' := 0) (B' := bX11_isEntry) [vI a1] dX11_isRanked_2 vRX11_224 kX11_isEntry (by decide) rfl (hW.K hS) rfl rfl (Nat.le_of_ble_eq_true rfl) ⟨Nat.le_of_ble_eq_true rfl, Nat.le_of_ble_eq_true rfl⟩ rfl rfl (hv w hW) (fun zx1 w2 hq => ?_)
  obtain ⟨r3, hw2, x1, ex1, hv⟩ := hq
  subst ex1
  show EJ X mX11_isRanked _ 0 0 _ _ (vI x1 :: []) w2
  refine e_if_ne (pc := 5) (tgt := 14) dX11_isRanked_5 (by decide) (fun h4 => ?_) (fun h4 => ?_)
  · replace hv := hv.1 h4
    refine e_aload_n (pc := 14) (i := 0) dX11_isRanked_14 rfl rfl ?_
    refine e_aload_n (pc := 15) (i := 0) dX11_isRanked_15 rfl rfl ?_
    refine n_get (pc := 16) hS hw2 4 dX11_isRanked_16 fRX11_20 rfl ?_
    refine e_iload_n (pc := 19) (i := 1) dX11_isRanked_19 rfl rfl ?_
    have hi5 : vp_in a1 301 := hv.1
    replace hv := hv.2
    refine n_iald (pc := 20) (wa := w2) hS hw2 4 dX11_isRanked_20 (by decide) rfl hi5 rfl ?_
    refine e_iload_n (pc := 21) (i := 2) dX11_isRanked_21 rfl rfl ?_
    refine e_callV (pc := 22) (ci := 11) (st := []) (rc' := 0) (rs' := 0) (B' := bX11_wrong) [vI (rI r3 4 a1.toNatClampNeg), vI a2] dX11_isRanked_22 vRX11_235 kX11_wrong (by decide) rfl (hw2.K hS) rfl rfl (Nat.le_of_ble_eq_true rfl) ⟨Nat.le_of_ble_eq_true rfl, Nat.le_of_ble_eq_true rfl⟩ rfl rfl (hv w2 hw2) (fun zx6 w7 hq => ?_)
    obtain ⟨r8, hw7, x6, ex6, hv⟩ := hq
    subst ex6
    show EJ X mX11_isRanked _ 0 0 _ _ (vI x6 :: []) w7
    refine e_istore_n (pc := 25) (i := 3) (lv' := [(0, vR m), (1, vI a1), (2, vI a2), (3, vI x6)]) dX11_isRanked_25 rfl (by decide) rfl ?_
    refine e_iload_n (pc := 26) (i := 3) dX11_isRanked_26 rfl rfl ?_
    refine e_if_le (pc := 27) (tgt := 36) dX11_isRanked_27 (by decide) (fun h9 => ?_) (fun h9 => ?_)
    · replace hv := hv.1 h9
      refine e_aload_n (pc := 36) (i := 0) dX11_isRanked_36 rfl rfl ?_
      refine e_callV (pc := 37) (ci := 11) (st := []) (rc' := 0) (rs' := 0) (B' := bX11_now) [] dX11_isRanked_37 vRX11_257 kX11_now (by decide) rfl (hw7.K hS) rfl rfl (Nat.le_of_ble_eq_true rfl) ⟨Nat.le_of_ble_eq_true rfl, Nat.le_of_ble_eq_true rfl⟩ rfl rfl (hv w7 hw7) (fun zx10 w11 hq => ?_)
      obtain ⟨r12, hw11, ex10, hv⟩ := hq
      subst ex10
      show EJ X mX11_isRanked _ 0 0 _ _ [] w11
      refine e_aload_n (pc := 40) (i := 0) dX11_isRanked_40 rfl rfl ?_
      refine n_get (pc := 41) hS hw11 3 dX11_isRanked_41 fRX11_17 rfl ?_
      refine e_iload_n (pc := 44) (i := 1) dX11_isRanked_44 rfl rfl ?_
      have hi13 : vp_in a1 301 := hv.1
      replace hv := hv.2
      refine n_iald (pc := 45) (wa := w11) hS hw11 3 dX11_isRanked_45 (by decide) rfl hi13 rfl ?_
      refine e_bipush (pc := 46) (v := 6) dX11_isRanked_46 (by decide) ?_
      refine e_icmp_eq (pc := 48) (tgt := 60) dX11_isRanked_48 (by decide) (fun h14 => ?_) (fun h14 => ?_)
      · replace hv := hv.1 h14
        refine e_aload_n (pc := 60) (i := 0) dX11_isRanked_60 rfl rfl ?_
        refine e_bipush (pc := 61) (v := 6) dX11_isRanked_61 (by decide) ?_
        refine e_callV (pc := 63) (ci := 11) (st := []) (rc' := 0) (rs' := 0) (B' := bX11_no) [vI 6] dX11_isRanked_63 vRX11_238 kX11_no (by decide) rfl (hw11.K hS) rfl rfl (Nat.le_of_ble_eq_true rfl) ⟨Nat.le_of_ble_eq_true rfl, Nat.le_of_ble_eq_true rfl⟩ rfl rfl (hv w11 hw11) (fun zx15 w16 hq => ?_)
        obtain ⟨r17, hw16, x15, ex15, hv⟩ := hq
        subst ex15
        show EJ X mX11_isRanked _ 0 0 _ _ (vI x15 :: []) w16
        exact e_zreturn (pc := 66) dX11_isRanked_66 rfl hv.1 ⟨r17, hw16, _, rfl, hv.2⟩
      · replace hv := hv.2 h14
        refine e_aload_n (pc := 51) (i := 0) dX11_isRanked_51 rfl rfl ?_
        refine e_iload_n (pc := 52) (i := 1) dX11_isRanked_52 rfl rfl ?_
        refine e_iload_n (pc := 53) (i := 2) dX11_isRanked_53 rfl rfl ?_
        refine e_callV (pc := 54) (ci := 11) (st := []) (rc' := 0) (rs' := 0) (B' := bX11_lies) [vI a1, vI a2] dX11_isRanked_54 vRX11_293 kX11_lies (by decide) rfl (hw11.K hS) rfl rfl (Nat.le_of_ble_eq_true rfl) ⟨Nat.le_of_ble_eq_true rfl, Nat.le_of_ble_eq_true rfl⟩ rfl rfl (hv w11 hw11) (fun zx18 w19 hq => ?_)
        obtain ⟨r20, hw19, x18, ex18, hv⟩ := hq
        subst ex18
        show EJ X mX11_isRanked _ 0 0 _ _ (vI x18 :: []) w19
        refine e_if_ne (pc := 57) (tgt := 67) dX11_isRanked_57 (by decide) (fun h21 => ?_) (fun h21 => ?_)
        · replace hv := hv.1 h21
          refine e_aload_n (pc := 67) (i := 0) dX11_isRanked_67 rfl rfl ?_
          refine e_aload_n (pc := 68) (i := 0) dX11_isRanked_68 rfl rfl ?_
          refine n_get (pc := 69) hS hw19 4 dX11_isRanked_69 fRX11_20 rfl ?_
          refine e_iload_n (pc := 72) (i := 1) dX11_isRanked_72 rfl rfl ?_
          have hi22 : vp_in a1 301 := hv.1
          replace hv := hv.2
          refine n_iald (pc := 73) (wa := w19) hS hw19 4 dX11_isRanked_73 (by decide) rfl hi22 rfl ?_
          refine e_iload_n (pc := 74) (i := 2) dX11_isRanked_74 rfl rfl ?_
          refine e_callV (pc := 75) (ci := 11) (st := []) (rc' := 0) (rs' := 0) (B' := bX11_orderOn) [vI (rI r20 4 a1.toNatClampNeg), vI a2] dX11_isRanked_75 vRX11_325 kX11_orderOn (by decide) rfl (hw19.K hS) rfl rfl (Nat.le_of_ble_eq_true rfl) ⟨Nat.le_of_ble_eq_true rfl, Nat.le_of_ble_eq_true rfl⟩ rfl rfl (hv w19 hw19) (fun zx23 w24 hq => ?_)
          obtain ⟨r25, hw24, ex23, hv⟩ := hq
          subst ex23
          show EJ X mX11_isRanked _ 0 0 _ _ [] w24
          refine e_aload_n (pc := 78) (i := 0) dX11_isRanked_78 rfl rfl ?_
          refine e_iconst (pc := 79) (v := 0) dX11_isRanked_79 (by decide) ?_
          refine n_putS (pc := 80) hS hw24 41 dX11_isRanked_80 fRX11_163 rfl rfl (fun w27 hw27 => ?_)
          obtain ⟨r26, er26⟩ : ∃ r26 : Rs, r26 = uS r25 41 0 := ⟨_, rfl⟩
          replace hv := hv r26 er26
          rw [← er26] at hw27
          refine e_iconst (pc := 83) (v := 1) dX11_isRanked_83 (by decide) ?_
          exact e_zreturn (pc := 84) dX11_isRanked_84 rfl (Or.inr rfl) ⟨r26, hw27, _, rfl, hv⟩
        · replace hv := hv.2 h21
          refine e_aload_n (pc := 60) (i := 0) dX11_isRanked_60 rfl rfl ?_
          refine e_bipush (pc := 61) (v := 6) dX11_isRanked_61 (by decide) ?_
          refine e_callV (pc := 63) (ci := 11) (st := []) (rc' := 0) (rs' := 0) (B' := bX11_no) [vI 6] dX11_isRanked_63 vRX11_238 kX11_no (by decide) rfl (hw19.K hS) rfl rfl (Nat.le_of_ble_eq_true rfl) ⟨Nat.le_of_ble_eq_true rfl, Nat.le_of_ble_eq_true rfl⟩ rfl rfl (hv w19 hw19) (fun zx28 w29 hq => ?_)
          obtain ⟨r30, hw29, x28, ex28, hv⟩ := hq
          subst ex28
          show EJ X mX11_isRanked _ 0 0 _ _ (vI x28 :: []) w29
          exact e_zreturn (pc := 66) dX11_isRanked_66 rfl hv.1 ⟨r30, hw29, _, rfl, hv.2⟩
    · replace hv := hv.2 h9
      refine e_aload_n (pc := 30) (i := 0) dX11_isRanked_30 rfl rfl ?_
      refine e_iload_n (pc := 31) (i := 3) dX11_isRanked_31 rfl rfl ?_
      refine e_callV (pc := 32) (ci := 11) (st := []) (rc' := 0) (rs' := 0) (B' := bX11_no) [vI x6] dX11_isRanked_32 vRX11_238 kX11_no (by decide) rfl (hw7.K hS) rfl rfl (Nat.le_of_ble_eq_true rfl) ⟨Nat.le_of_ble_eq_true rfl, Nat.le_of_ble_eq_true rfl⟩ rfl rfl (hv w7 hw7) (fun zx31 w32 hq => ?_)
      obtain ⟨r33, hw32, x31, ex31, hv⟩ := hq
      subst ex31
      show EJ X mX11_isRanked _ 0 0 _ _ (vI x31 :: []) w32
      exact e_zreturn (pc := 35) dX11_isRanked_35 rfl hv.1 ⟨r33, hw32, _, rfl, hv.2⟩
  · replace hv := hv.2 h4
    refine e_aload_n (pc := 8) (i := 0) dX11_isRanked_8 rfl rfl ?_
    refine e_iconst (pc := 9) (v := 1) dX11_isRanked_9 (by decide) ?_
    refine e_callV (pc := 10) (ci := 11) (st := []) (rc' := 0) (rs' := 0) (B' := bX11_no) [vI 1] dX11_isRanked_10 vRX11_238 kX11_no (by decide) rfl (hw2.K hS) rfl rfl (Nat.le_of_ble_eq_true rfl) ⟨Nat.le_of_ble_eq_true rfl, Nat.le_of_ble_eq_true rfl⟩ rfl rfl (hv w2 hw2) (fun zx34 w35 hq => ?_)
    obtain ⟨r36, hw35, x34, ex34, hv⟩ := hq
    subst ex34
    show EJ X mX11_isRanked _ 0 0 _ _ (vI x34 :: []) w35
    exact e_zreturn (pc := 13) dX11_isRanked_13 rfl hv.1 ⟨r36, hw35, _, rfl, hv.2⟩
set_option maxRecDepth 100000 in
set_option maxHeartbeats 4000000 in
theorem pX11_rank (X : Cx) (w0 : Wd) (m : Nat) (hS : Sh w0 m) (A : Int32 → Rs → Prop) (a1 : Int32) (a2 : Int32) (r : Rs)
    (hv : CM X w0 m bX11_isRanked mX11_isRanked [vI a1, vI a2] r (pI fun x1 r3 => ((x1 = 0) → A (-1) r3) ∧ ((¬ x1 = 0) → vp_in a1 301 ∧ CM X w0 m bX11_standsAt mX11_standsAt [vI (rI r3 5 a1.toNatClampNeg)] r3 (pI fun x6 r8 => A x6 r8)))) :
    CM X w0 m bX11_rank mX11_rank [vI a1, vI a2] r (pI A) := by
  intro w hW
  refine Ct.of (Q := qM w0 m (pI A)) (lv := [(0, vR m), (1, vI a1), (2, vI a2)]) rfl (Nat.le_of_ble_eq_true rfl) rfl ?_
  refine e_aload_n (pc := 0) (i := 0) dX11_rank_0 rfl rfl ?_
  refine e_iload_n (pc := 1) (i := 1) dX11_rank_1 rfl rfl ?_
  refine e_iload_n (pc := 2) (i := 2) dX11_rank_2 rfl rfl ?_
  refine e_callV (pc := 3) (ci := 11) (st := []) (rc' := 0) (rs' := 0) (B' := bX11_isRanked) [vI a1, vI a2] dX11_rank_3 vRX11_328 kX11_isRanked (by decide) rfl (hW.K hS) rfl rfl (Nat.le_of_ble_eq_true rfl) ⟨Nat.le_of_ble_eq_true rfl, Nat.le_of_ble_eq_true rfl⟩ rfl rfl (hv w hW) (fun zx1 w2 hq => ?_)
  obtain ⟨r3, hw2, x1, ex1, hv⟩ := hq
  subst ex1
  show EJ X mX11_rank _ 0 0 _ _ (vI x1 :: []) w2
  refine e_if_eq (pc := 6) (tgt := 22) dX11_rank_6 (by decide) (fun h4 => ?_) (fun h4 => ?_)
  · replace hv := hv.1 h4
    refine e_iconst (pc := 22) (v := (-1)) dX11_rank_22 (by decide) ?_
    exact e_ireturn (pc := 23) dX11_rank_23 rfl ⟨r3, hw2, _, rfl, hv⟩
  · replace hv := hv.2 h4
    refine e_aload_n (pc := 9) (i := 0) dX11_rank_9 rfl rfl ?_
    refine e_aload_n (pc := 10) (i := 0) dX11_rank_10 rfl rfl ?_
    refine n_get (pc := 11) hS hw2 5 dX11_rank_11 fRX11_23 rfl ?_
    refine e_iload_n (pc := 14) (i := 1) dX11_rank_14 rfl rfl ?_
    have hi5 : vp_in a1 301 := hv.1
    replace hv := hv.2
    refine n_iald (pc := 15) (wa := w2) hS hw2 5 dX11_rank_15 (by decide) rfl hi5 rfl ?_
    refine e_callV (pc := 16) (ci := 11) (st := []) (rc' := 0) (rs' := 0) (B' := bX11_standsAt) [vI (rI r3 5 a1.toNatClampNeg)] dX11_rank_16 vRX11_319 kX11_standsAt (by decide) rfl (hw2.K hS) rfl rfl (Nat.le_of_ble_eq_true rfl) ⟨Nat.le_of_ble_eq_true rfl, Nat.le_of_ble_eq_true rfl⟩ rfl rfl (hv w2 hw2) (fun zx6 w7 hq => ?_)
    obtain ⟨r8, hw7, x6, ex6, hv⟩ := hq
    subst ex6
    show EJ X mX11_rank _ 0 0 _ _ (vI x6 :: []) w7
    refine e_goto (pc := 19) (tgt := 23) dX11_rank_19 (by decide) ?_
    exact e_ireturn (pc := 23) dX11_rank_23 rfl ⟨r8, hw7, _, rfl, hv⟩
set_option maxRecDepth 100000 in
set_option maxHeartbeats 4000000 in
theorem pX11_why (X : Cx) (w0 : Wd) (m : Nat) (hS : Sh w0 m) (A : Int32 → Rs → Prop) (a1 : Int32) (a2 : Int32) (r : Rs)
    (hv : CM X w0 m bX11_isRanked mX11_isRanked [vI a1, vI a2] r (pI fun x1 r3 => ((x1 = 0) → A (-1) r3) ∧ ((¬ x1 = 0) → vp_in a1 301 ∧ vp_in (rI r3 5 a1.toNatClampNeg) 301 ∧ A (rI r3 56 (rI r3 5 a1.toNatClampNeg).toNatClampNeg) r3))) :
    CM X w0 m bX11_why mX11_why [vI a1, vI a2] r (pI A) := by
  intro w hW
  refine Ct.of (Q := qM w0 m (pI A)) (lv := [(0, vR m), (1, vI a1), (2, vI a2)]) rfl (Nat.le_of_ble_eq_true rfl) rfl ?_
  refine e_aload_n (pc := 0) (i := 0) dX11_why_0 rfl rfl ?_
  refine e_iload_n (pc := 1) (i := 1) dX11_why_1 rfl rfl ?_
  refine e_iload_n (pc := 2) (i := 2) dX11_why_2 rfl rfl ?_
  refine e_callV (pc := 3) (ci := 11) (st := []) (rc' := 0) (rs' := 0) (B' := bX11_isRanked) [vI a1, vI a2] dX11_why_3 vRX11_328 kX11_isRanked (by decide) rfl (hW.K hS) rfl rfl (Nat.le_of_ble_eq_true rfl) ⟨Nat.le_of_ble_eq_true rfl, Nat.le_of_ble_eq_true rfl⟩ rfl rfl (hv w hW) (fun zx1 w2 hq => ?_)
  obtain ⟨r3, hw2, x1, ex1, hv⟩ := hq
  subst ex1
  show EJ X mX11_why _ 0 0 _ _ (vI x1 :: []) w2
  refine e_if_eq (pc := 6) (tgt := 23) dX11_why_6 (by decide) (fun h4 => ?_) (fun h4 => ?_)
  · replace hv := hv.1 h4
    refine e_iconst (pc := 23) (v := (-1)) dX11_why_23 (by decide) ?_
    exact e_ireturn (pc := 24) dX11_why_24 rfl ⟨r3, hw2, _, rfl, hv⟩
  · replace hv := hv.2 h4
    refine e_aload_n (pc := 9) (i := 0) dX11_why_9 rfl rfl ?_
    refine n_get (pc := 10) hS hw2 56 dX11_why_10 fRX11_145 rfl ?_
    refine e_aload_n (pc := 13) (i := 0) dX11_why_13 rfl rfl ?_
    refine n_get (pc := 14) hS hw2 5 dX11_why_14 fRX11_23 rfl ?_
    refine e_iload_n (pc := 17) (i := 1) dX11_why_17 rfl rfl ?_
    have hi5 : vp_in a1 301 := hv.1
    replace hv := hv.2
    refine n_iald (pc := 18) (wa := w2) hS hw2 5 dX11_why_18 (by decide) rfl hi5 rfl ?_
    have hi6 : vp_in (rI r3 5 a1.toNatClampNeg) 301 := hv.1
    replace hv := hv.2
    refine n_iald (pc := 19) (wa := w2) hS hw2 56 dX11_why_19 (by decide) rfl hi6 rfl ?_
    refine e_goto (pc := 20) (tgt := 24) dX11_why_20 (by decide) ?_
    exact e_ireturn (pc := 24) dX11_why_24 rfl ⟨r3, hw2, _, rfl, hv⟩
set_option maxRecDepth 100000 in
set_option maxHeartbeats 4000000 in
theorem pX11_as (X : Cx) (w0 : Wd) (m : Nat) (hS : Sh w0 m) (A : Int32 → Rs → Prop) (a1 : Int32) (a2 : Int32) (a3 : Int32) (a4 : Int32) (r : Rs)
    (hv : CM X w0 m bX11_wrong mX11_wrong [vI (sS r 42), vI a1] r (pI fun x1 r3 => ((x1 ≤ 0) → ((a2 < 0) → CM X w0 m bX11_refuse mX11_refuse [vI 5] r3 (pI fun x6 r8 => A x6 r8)) ∧ ((¬ a2 < 0) → (((sS r3 39) < a2) → CM X w0 m bX11_refuse mX11_refuse [vI 5] r3 (pI fun x10 r12 => A x10 r12)) ∧ ((¬ (sS r3 39) < a2) → ((a3 < 0) → CM X w0 m bX11_refuse mX11_refuse [vI 5] r3 (pI fun x14 r16 => A x14 r16)) ∧ ((¬ a3 < 0) → ((a3 ≤ (sS r3 39)) → CM X w0 m bX11_view mX11_view [vI a2, vI a3] r3 (pV fun r20 => CM X w0 m bX11_orderOn mX11_orderOn [vI (sS r20 42), vI a1] r20 (pV fun r23 => ((a4 < 0) → CM X w0 m bX11_refuse mX11_refuse [vI 5] r23 (pI fun x25 r27 => A x25 r27)) ∧ ((¬ a4 < 0) → ((a4 < (sS r23 58)) → ∀ r29 : Rs, r29 = uS r23 41 0 → vp_in a4 301 ∧ A (rI r29 55 a4.toNatClampNeg) r29) ∧ ((¬ a4 < (sS r23 58)) → CM X w0 m bX11_refuse mX11_refuse [vI 5] r23 (pI fun x32 r34 => A x32 r34)))))) ∧ ((¬ a3 ≤ (sS r3 39)) → CM X w0 m bX11_refuse mX11_refuse [vI 5] r3 (pI fun x35 r37 => A x35 r37)))))) ∧ ((¬ x1 ≤ 0) → CM X w0 m bX11_refuse mX11_refuse [vI x1] r3 (pI fun x38 r40 => A x38 r40)))) :
    CM X w0 m bX11_as mX11_as [vI a1, vI a2, vI a3, vI a4] r (pI A) := by
  intro w hW
  refine Ct.of (Q := qM w0 m (pI A)) (lv := [(0, vR m), (1, vI a1), (2, vI a2), (3, vI a3), (4, vI a4)]) rfl (Nat.le_of_ble_eq_true rfl) rfl ?_
  refine e_aload_n (pc := 0) (i := 0) dX11_as_0 rfl rfl ?_
  refine e_aload_n (pc := 1) (i := 0) dX11_as_1 rfl rfl ?_
  refine n_getS (pc := 2) hS hW 42 dX11_as_2 fRX11_331 rfl ?_
  refine e_iload_n (pc := 5) (i := 1) dX11_as_5 rfl rfl ?_
  refine e_callV (pc := 6) (ci := 11) (st := []) (rc' := 0) (rs' := 0) (B' := bX11_wrong) [vI (sS r 42), vI a1] dX11_as_6 vRX11_235 kX11_wrong (by decide) rfl (hW.K hS) rfl rfl (Nat.le_of_ble_eq_true rfl) ⟨Nat.le_of_ble_eq_true rfl, Nat.le_of_ble_eq_true rfl⟩ rfl rfl (hv w hW) (fun zx1 w2 hq => ?_)
  obtain ⟨r3, hw2, x1, ex1, hv⟩ := hq
  subst ex1
  show EJ X mX11_as _ 0 0 _ _ (vI x1 :: []) w2
  refine e_istore (pc := 9) (i := 5) (lv' := [(0, vR m), (1, vI a1), (2, vI a2), (3, vI a3), (4, vI a4), (5, vI x1)]) dX11_as_9 (by decide) rfl ?_
  refine e_iload (pc := 11) (i := 5) dX11_as_11 rfl ?_
  refine e_if_le (pc := 13) (tgt := 23) dX11_as_13 (by decide) (fun h4 => ?_) (fun h4 => ?_)
  · replace hv := hv.1 h4
    refine e_iload_n (pc := 23) (i := 2) dX11_as_23 rfl rfl ?_
    refine e_if_lt (pc := 24) (tgt := 47) dX11_as_24 (by decide) (fun h5 => ?_) (fun h5 => ?_)
    · replace hv := hv.1 h5
      refine e_aload_n (pc := 47) (i := 0) dX11_as_47 rfl rfl ?_
      refine e_iconst (pc := 48) (v := 5) dX11_as_48 (by decide) ?_
      refine e_callV (pc := 49) (ci := 11) (st := []) (rc' := 0) (rs' := 0) (B' := bX11_refuse) [vI 5] dX11_as_49 vRX11_231 kX11_refuse (by decide) rfl (hw2.K hS) rfl rfl (Nat.le_of_ble_eq_true rfl) ⟨Nat.le_of_ble_eq_true rfl, Nat.le_of_ble_eq_true rfl⟩ rfl rfl (hv w2 hw2) (fun zx6 w7 hq => ?_)
      obtain ⟨r8, hw7, x6, ex6, hv⟩ := hq
      subst ex6
      show EJ X mX11_as _ 0 0 _ _ (vI x6 :: []) w7
      exact e_ireturn (pc := 52) dX11_as_52 rfl ⟨r8, hw7, _, rfl, hv⟩
    · replace hv := hv.2 h5
      refine e_iload_n (pc := 27) (i := 2) dX11_as_27 rfl rfl ?_
      refine e_aload_n (pc := 28) (i := 0) dX11_as_28 rfl rfl ?_
      refine n_getS (pc := 29) hS hw2 39 dX11_as_29 fRX11_166 rfl ?_
      refine e_icmp_gt (pc := 32) (tgt := 47) dX11_as_32 (by decide) (fun h9 => ?_) (fun h9 => ?_)
      · replace hv := hv.1 h9
        refine e_aload_n (pc := 47) (i := 0) dX11_as_47 rfl rfl ?_
        refine e_iconst (pc := 48) (v := 5) dX11_as_48 (by decide) ?_
        refine e_callV (pc := 49) (ci := 11) (st := []) (rc' := 0) (rs' := 0) (B' := bX11_refuse) [vI 5] dX11_as_49 vRX11_231 kX11_refuse (by decide) rfl (hw2.K hS) rfl rfl (Nat.le_of_ble_eq_true rfl) ⟨Nat.le_of_ble_eq_true rfl, Nat.le_of_ble_eq_true rfl⟩ rfl rfl (hv w2 hw2) (fun zx10 w11 hq => ?_)
        obtain ⟨r12, hw11, x10, ex10, hv⟩ := hq
        subst ex10
        show EJ X mX11_as _ 0 0 _ _ (vI x10 :: []) w11
        exact e_ireturn (pc := 52) dX11_as_52 rfl ⟨r12, hw11, _, rfl, hv⟩
      · replace hv := hv.2 h9
        refine e_iload_n (pc := 35) (i := 3) dX11_as_35 rfl rfl ?_
        refine e_if_lt (pc := 36) (tgt := 47) dX11_as_36 (by decide) (fun h13 => ?_) (fun h13 => ?_)
        · replace hv := hv.1 h13
          refine e_aload_n (pc := 47) (i := 0) dX11_as_47 rfl rfl ?_
          refine e_iconst (pc := 48) (v := 5) dX11_as_48 (by decide) ?_
          refine e_callV (pc := 49) (ci := 11) (st := []) (rc' := 0) (rs' := 0) (B' := bX11_refuse) [vI 5] dX11_as_49 vRX11_231 kX11_refuse (by decide) rfl (hw2.K hS) rfl rfl (Nat.le_of_ble_eq_true rfl) ⟨Nat.le_of_ble_eq_true rfl, Nat.le_of_ble_eq_true rfl⟩ rfl rfl (hv w2 hw2) (fun zx14 w15 hq => ?_)
          obtain ⟨r16, hw15, x14, ex14, hv⟩ := hq
          subst ex14
          show EJ X mX11_as _ 0 0 _ _ (vI x14 :: []) w15
          exact e_ireturn (pc := 52) dX11_as_52 rfl ⟨r16, hw15, _, rfl, hv⟩
        · replace hv := hv.2 h13
          refine e_iload_n (pc := 39) (i := 3) dX11_as_39 rfl rfl ?_
          refine e_aload_n (pc := 40) (i := 0) dX11_as_40 rfl rfl ?_
          refine n_getS (pc := 41) hS hw2 39 dX11_as_41 fRX11_166 rfl ?_
          refine e_icmp_le (pc := 44) (tgt := 53) dX11_as_44 (by decide) (fun h17 => ?_) (fun h17 => ?_)
          · replace hv := hv.1 h17
            refine e_aload_n (pc := 53) (i := 0) dX11_as_53 rfl rfl ?_
            refine e_iload_n (pc := 54) (i := 2) dX11_as_54 rfl rfl ?_
            refine e_iload_n (pc := 55) (i := 3) dX11_as_55 rfl rfl ?_
            refine e_callV (pc := 56) (ci := 11) (st := []) (rc' := 0) (rs' := 0) (B' := bX11_view) [vI a2, vI a3] dX11_as_56 vRX11_181 kX11_view (by decide) rfl (hw2.K hS) rfl rfl (Nat.le_of_ble_eq_true rfl) ⟨Nat.le_of_ble_eq_true rfl, Nat.le_of_ble_eq_true rfl⟩ rfl rfl (hv w2 hw2) (fun zx18 w19 hq => ?_)
            obtain ⟨r20, hw19, ex18, hv⟩ := hq
            subst ex18
            show EJ X mX11_as _ 0 0 _ _ [] w19
            refine e_aload_n (pc := 59) (i := 0) dX11_as_59 rfl rfl ?_
            refine e_aload_n (pc := 60) (i := 0) dX11_as_60 rfl rfl ?_
            refine n_getS (pc := 61) hS hw19 42 dX11_as_61 fRX11_331 rfl ?_
            refine e_iload_n (pc := 64) (i := 1) dX11_as_64 rfl rfl ?_
            refine e_callV (pc := 65) (ci := 11) (st := []) (rc' := 0) (rs' := 0) (B' := bX11_orderOn) [vI (sS r20 42), vI a1] dX11_as_65 vRX11_325 kX11_orderOn (by decide) rfl (hw19.K hS) rfl rfl (Nat.le_of_ble_eq_true rfl) ⟨Nat.le_of_ble_eq_true rfl, Nat.le_of_ble_eq_true rfl⟩ rfl rfl (hv w19 hw19) (fun zx21 w22 hq => ?_)
            obtain ⟨r23, hw22, ex21, hv⟩ := hq
            subst ex21
            show EJ X mX11_as _ 0 0 _ _ [] w22
            refine e_iload (pc := 68) (i := 4) dX11_as_68 rfl ?_
            refine e_if_lt (pc := 70) (tgt := 82) dX11_as_70 (by decide) (fun h24 => ?_) (fun h24 => ?_)
            · replace hv := hv.1 h24
              refine e_aload_n (pc := 82) (i := 0) dX11_as_82 rfl rfl ?_
              refine e_iconst (pc := 83) (v := 5) dX11_as_83 (by decide) ?_
              refine e_callV (pc := 84) (ci := 11) (st := []) (rc' := 0) (rs' := 0) (B' := bX11_refuse) [vI 5] dX11_as_84 vRX11_231 kX11_refuse (by decide) rfl (hw22.K hS) rfl rfl (Nat.le_of_ble_eq_true rfl) ⟨Nat.le_of_ble_eq_true rfl, Nat.le_of_ble_eq_true rfl⟩ rfl rfl (hv w22 hw22) (fun zx25 w26 hq => ?_)
              obtain ⟨r27, hw26, x25, ex25, hv⟩ := hq
              subst ex25
              show EJ X mX11_as _ 0 0 _ _ (vI x25 :: []) w26
              exact e_ireturn (pc := 87) dX11_as_87 rfl ⟨r27, hw26, _, rfl, hv⟩
            · replace hv := hv.2 h24
              refine e_iload (pc := 73) (i := 4) dX11_as_73 rfl ?_
              refine e_aload_n (pc := 75) (i := 0) dX11_as_75 rfl rfl ?_
              refine n_getS (pc := 76) hS hw22 58 dX11_as_76 fRX11_313 rfl ?_
              refine e_icmp_lt (pc := 79) (tgt := 88) dX11_as_79 (by decide) (fun h28 => ?_) (fun h28 => ?_)
              · replace hv := hv.1 h28
                refine e_aload_n (pc := 88) (i := 0) dX11_as_88 rfl rfl ?_
                refine e_iconst (pc := 89) (v := 0) dX11_as_89 (by decide) ?_
                refine n_putS (pc := 90) hS hw22 41 dX11_as_90 fRX11_163 rfl rfl (fun w30 hw30 => ?_)
                obtain ⟨r29, er29⟩ : ∃ r29 : Rs, r29 = uS r23 41 0 := ⟨_, rfl⟩
                replace hv := hv r29 er29
                rw [← er29] at hw30
                refine e_aload_n (pc := 93) (i := 0) dX11_as_93 rfl rfl ?_
                refine n_get (pc := 94) hS hw30 55 dX11_as_94 fRX11_142 rfl ?_
                refine e_iload (pc := 97) (i := 4) dX11_as_97 rfl ?_
                have hi31 : vp_in a4 301 := hv.1
                replace hv := hv.2
                refine n_iald (pc := 99) (wa := w30) hS hw30 55 dX11_as_99 (by decide) rfl hi31 rfl ?_
                exact e_ireturn (pc := 100) dX11_as_100 rfl ⟨r29, hw30, _, rfl, hv⟩
              · replace hv := hv.2 h28
                refine e_aload_n (pc := 82) (i := 0) dX11_as_82 rfl rfl ?_
                refine e_iconst (pc := 83) (v := 5) dX11_as_83 (by decide) ?_
                refine e_callV (pc := 84) (ci := 11) (st := []) (rc' := 0) (rs' := 0) (B' := bX11_refuse) [vI 5] dX11_as_84 vRX11_231 kX11_refuse (by decide) rfl (hw22.K hS) rfl rfl (Nat.le_of_ble_eq_true rfl) ⟨Nat.le_of_ble_eq_true rfl, Nat.le_of_ble_eq_true rfl⟩ rfl rfl (hv w22 hw22) (fun zx32 w33 hq => ?_)
                obtain ⟨r34, hw33, x32, ex32, hv⟩ := hq
                subst ex32
                show EJ X mX11_as _ 0 0 _ _ (vI x32 :: []) w33
                exact e_ireturn (pc := 87) dX11_as_87 rfl ⟨r34, hw33, _, rfl, hv⟩
          · replace hv := hv.2 h17
            refine e_aload_n (pc := 47) (i := 0) dX11_as_47 rfl rfl ?_
            refine e_iconst (pc := 48) (v := 5) dX11_as_48 (by decide) ?_
            refine e_callV (pc := 49) (ci := 11) (st := []) (rc' := 0) (rs' := 0) (B' := bX11_refuse) [vI 5] dX11_as_49 vRX11_231 kX11_refuse (by decide) rfl (hw2.K hS) rfl rfl (Nat.le_of_ble_eq_true rfl) ⟨Nat.le_of_ble_eq_true rfl, Nat.le_of_ble_eq_true rfl⟩ rfl rfl (hv w2 hw2) (fun zx35 w36 hq => ?_)
            obtain ⟨r37, hw36, x35, ex35, hv⟩ := hq
            subst ex35
            show EJ X mX11_as _ 0 0 _ _ (vI x35 :: []) w36
            exact e_ireturn (pc := 52) dX11_as_52 rfl ⟨r37, hw36, _, rfl, hv⟩
  · replace hv := hv.2 h4
    refine e_aload_n (pc := 16) (i := 0) dX11_as_16 rfl rfl ?_
    refine e_iload (pc := 17) (i := 5) dX11_as_17 rfl ?_
    refine e_callV (pc := 19) (ci := 11) (st := []) (rc' := 0) (rs' := 0) (B' := bX11_refuse) [vI x1] dX11_as_19 vRX11_231 kX11_refuse (by decide) rfl (hw2.K hS) rfl rfl (Nat.le_of_ble_eq_true rfl) ⟨Nat.le_of_ble_eq_true rfl, Nat.le_of_ble_eq_true rfl⟩ rfl rfl (hv w2 hw2) (fun zx38 w39 hq => ?_)
    obtain ⟨r40, hw39, x38, ex38, hv⟩ := hq
    subst ex38
    show EJ X mX11_as _ 0 0 _ _ (vI x38 :: []) w39
    exact e_ireturn (pc := 22) dX11_as_22 rfl ⟨r40, hw39, _, rfl, hv⟩
set_option maxRecDepth 100000 in
set_option maxHeartbeats 4000000 in
theorem pX11_choose (X : Cx) (w0 : Wd) (m : Nat) (hS : Sh w0 m) (A : Int32 → Rs → Prop) (a1 : Int32) (r : Rs)
    (hv : ((a1 < 0) → CM X w0 m bX11_no mX11_no [vI 1] r (pI fun x2 r4 => (x2 = 0 ∨ x2 = 1) ∧ A x2 r4)) ∧ ((¬ a1 < 0) → ((a1 < (sS r 2)) → ∀ r6 : Rs, r6 = uS r 42 a1 → ∀ r8 : Rs, r8 = uS r6 41 0 → A 1 r8) ∧ ((¬ a1 < (sS r 2)) → CM X w0 m bX11_no mX11_no [vI 1] r (pI fun x10 r12 => (x10 = 0 ∨ x10 = 1) ∧ A x10 r12)))) :
    CM X w0 m bX11_choose mX11_choose [vI a1] r (pI A) := by
  intro w hW
  refine Ct.of (Q := qM w0 m (pI A)) (lv := [(0, vR m), (1, vI a1)]) rfl (Nat.le_of_ble_eq_true rfl) rfl ?_
  refine e_iload_n (pc := 0) (i := 1) dX11_choose_0 rfl rfl ?_
  refine e_if_lt (pc := 1) (tgt := 12) dX11_choose_1 (by decide) (fun h1 => ?_) (fun h1 => ?_)
  · replace hv := hv.1 h1
    refine e_aload_n (pc := 12) (i := 0) dX11_choose_12 rfl rfl ?_
    refine e_iconst (pc := 13) (v := 1) dX11_choose_13 (by decide) ?_
    refine e_callV (pc := 14) (ci := 11) (st := []) (rc' := 0) (rs' := 0) (B' := bX11_no) [vI 1] dX11_choose_14 vRX11_238 kX11_no (by decide) rfl (hW.K hS) rfl rfl (Nat.le_of_ble_eq_true rfl) ⟨Nat.le_of_ble_eq_true rfl, Nat.le_of_ble_eq_true rfl⟩ rfl rfl (hv w hW) (fun zx2 w3 hq => ?_)
    obtain ⟨r4, hw3, x2, ex2, hv⟩ := hq
    subst ex2
    show EJ X mX11_choose _ 0 0 _ _ (vI x2 :: []) w3
    exact e_zreturn (pc := 17) dX11_choose_17 rfl hv.1 ⟨r4, hw3, _, rfl, hv.2⟩
  · replace hv := hv.2 h1
    refine e_iload_n (pc := 4) (i := 1) dX11_choose_4 rfl rfl ?_
    refine e_aload_n (pc := 5) (i := 0) dX11_choose_5 rfl rfl ?_
    refine n_getS (pc := 6) hS hW 2 dX11_choose_6 fRX11_172 rfl ?_
    refine e_icmp_lt (pc := 9) (tgt := 18) dX11_choose_9 (by decide) (fun h5 => ?_) (fun h5 => ?_)
    · replace hv := hv.1 h5
      refine e_aload_n (pc := 18) (i := 0) dX11_choose_18 rfl rfl ?_
      refine e_iload_n (pc := 19) (i := 1) dX11_choose_19 rfl rfl ?_
      refine n_putS (pc := 20) hS hW 42 dX11_choose_20 fRX11_331 rfl rfl (fun w7 hw7 => ?_)
      obtain ⟨r6, er6⟩ : ∃ r6 : Rs, r6 = uS r 42 a1 := ⟨_, rfl⟩
      replace hv := hv r6 er6
      rw [← er6] at hw7
      refine e_aload_n (pc := 23) (i := 0) dX11_choose_23 rfl rfl ?_
      refine e_iconst (pc := 24) (v := 0) dX11_choose_24 (by decide) ?_
      refine n_putS (pc := 25) hS hw7 41 dX11_choose_25 fRX11_163 rfl rfl (fun w9 hw9 => ?_)
      obtain ⟨r8, er8⟩ : ∃ r8 : Rs, r8 = uS r6 41 0 := ⟨_, rfl⟩
      replace hv := hv r8 er8
      rw [← er8] at hw9
      refine e_iconst (pc := 28) (v := 1) dX11_choose_28 (by decide) ?_
      exact e_zreturn (pc := 29) dX11_choose_29 rfl (Or.inr rfl) ⟨r8, hw9, _, rfl, hv⟩
    · replace hv := hv.2 h5
      refine e_aload_n (pc := 12) (i := 0) dX11_choose_12 rfl rfl ?_
      refine e_iconst (pc := 13) (v := 1) dX11_choose_13 (by decide) ?_
      refine e_callV (pc := 14) (ci := 11) (st := []) (rc' := 0) (rs' := 0) (B' := bX11_no) [vI 1] dX11_choose_14 vRX11_238 kX11_no (by decide) rfl (hW.K hS) rfl rfl (Nat.le_of_ble_eq_true rfl) ⟨Nat.le_of_ble_eq_true rfl, Nat.le_of_ble_eq_true rfl⟩ rfl rfl (hv w hW) (fun zx10 w11 hq => ?_)
      obtain ⟨r12, hw11, x10, ex10, hv⟩ := hq
      subst ex10
      show EJ X mX11_choose _ 0 0 _ _ (vI x10 :: []) w11
      exact e_zreturn (pc := 17) dX11_choose_17 rfl hv.1 ⟨r12, hw11, _, rfl, hv.2⟩
abbrev iX11_dueIn_10 (X : Cx) (w0 : Wd) (m : Nat) (A : Int64 → Rs → Prop) (l2 : Int64) (l4 : Int32) (r : Rs) : Prop := ∀ w, Wm w0 m r w → EJ X mX11_dueIn (vw X bX11_dueIn (qM w0 m (pJ A))) 0 0 10 [(0, vR m), (2, vJ l2), (4, vI l4)] [] w
set_option maxRecDepth 100000 in
set_option maxHeartbeats 4000000 in
theorem rX11_dueIn_10 (X : Cx) (w0 : Wd) (m : Nat) (hS : Sh w0 m) (A : Int64 → Rs → Prop) (l2 : Int64) (l4 : Int32) (r : Rs)
    (hv : (((sS r 48) ≤ l4) → A l2 r) ∧ ((¬ (sS r 48) ≤ l4) → vp_in l4 301 ∧ vp_in (rI r 47 l4.toNatClampNeg) 301 ∧ iX11_dueIn_10 X w0 m A (l2 + (rJ r 60 (rI r 47 l4.toNatClampNeg).toNatClampNeg)) (l4 + 1) r)) :
    iX11_dueIn_10 X w0 m A l2 l4 r := by
  intro w hW
  refine e_iload (pc := 10) (i := 4) dX11_dueIn_10 rfl ?_
  refine e_aload_n (pc := 12) (i := 0) dX11_dueIn_12 rfl rfl ?_
  refine n_getS (pc := 13) hS hW 48 dX11_dueIn_13 fRX11_199 rfl ?_
  refine e_icmp_ge (pc := 16) (tgt := 40) dX11_dueIn_16 (by decide) (fun h1 => ?_) (fun h1 => ?_)
  · replace hv := hv.1 h1
    refine e_lload_n (pc := 40) (i := 2) dX11_dueIn_40 rfl rfl ?_
    exact e_lreturn (pc := 41) dX11_dueIn_41 rfl ⟨r, hW, _, rfl, hv⟩
  · replace hv := hv.2 h1
    refine e_lload_n (pc := 19) (i := 2) dX11_dueIn_19 rfl rfl ?_
    refine e_aload_n (pc := 20) (i := 0) dX11_dueIn_20 rfl rfl ?_
    refine n_get (pc := 21) hS hW 60 dX11_dueIn_21 fRX11_151 rfl ?_
    refine e_aload_n (pc := 24) (i := 0) dX11_dueIn_24 rfl rfl ?_
    refine n_get (pc := 25) hS hW 47 dX11_dueIn_25 fRX11_124 rfl ?_
    refine e_iload (pc := 28) (i := 4) dX11_dueIn_28 rfl ?_
    have hi2 : vp_in l4 301 := hv.1
    replace hv := hv.2
    refine n_iald (pc := 30) (wa := w) hS hW 47 dX11_dueIn_30 (by decide) rfl hi2 rfl ?_
    have hi3 : vp_in (rI r 47 l4.toNatClampNeg) 301 := hv.1
    replace hv := hv.2
    refine n_lald (pc := 31) (wa := w) hS hW 60 dX11_dueIn_31 (by decide) rfl hi3 rfl ?_
    refine e_ladd (pc := 32) dX11_dueIn_32 ?_
    refine e_lstore_n (pc := 33) (i := 2) (lv' := [(0, vR m), (2, vJ (l2 + (rJ r 60 (rI r 47 l4.toNatClampNeg).toNatClampNeg))), (4, vI l4)]) dX11_dueIn_33 rfl (by decide) rfl ?_
    refine e_iinc (pc := 34) (v := l4 + 1) (lv' := [(0, vR m), (2, vJ (l2 + (rJ r 60 (rI r 47 l4.toNatClampNeg).toNatClampNeg))), (4, vI (l4 + 1))]) dX11_dueIn_34 rfl rfl (by decide) rfl ?_
    refine e_goto (pc := 37) (tgt := 10) dX11_dueIn_37 (by decide) ?_
    exact hv w hW
set_option maxRecDepth 100000 in
set_option maxHeartbeats 4000000 in
theorem pX11_dueIn (X : Cx) (w0 : Wd) (m : Nat) (hS : Sh w0 m) (A : Int64 → Rs → Prop) (a1 : Int32) (r : Rs)
    (hv : CM X w0 m bX11_leavesOf mX11_leavesOf [vI a1] r (pV fun r3 => iX11_dueIn_10 X w0 m A 0 0 r3)) :
    CM X w0 m bX11_dueIn mX11_dueIn [vI a1] r (pJ A) := by
  intro w hW
  refine Ct.of (Q := qM w0 m (pJ A)) (lv := [(0, vR m), (1, vI a1)]) rfl (Nat.le_of_ble_eq_true rfl) rfl ?_
  refine e_aload_n (pc := 0) (i := 0) dX11_dueIn_0 rfl rfl ?_
  refine e_iload_n (pc := 1) (i := 1) dX11_dueIn_1 rfl rfl ?_
  refine e_callV (pc := 2) (ci := 11) (st := []) (rc' := 0) (rs' := 0) (B' := bX11_leavesOf) [vI a1] dX11_dueIn_2 vRX11_206 kX11_leavesOf (by decide) rfl (hW.K hS) rfl rfl (Nat.le_of_ble_eq_true rfl) ⟨Nat.le_of_ble_eq_true rfl, Nat.le_of_ble_eq_true rfl⟩ rfl rfl (hv w hW) (fun zx1 w2 hq => ?_)
  obtain ⟨r3, hw2, ex1, hv⟩ := hq
  subst ex1
  show EJ X mX11_dueIn _ 0 0 _ _ [] w2
  refine e_lconst (pc := 5) (v := 0) dX11_dueIn_5 (by decide) ?_
  refine e_lstore_n (pc := 6) (i := 2) (lv' := [(0, vR m), (1, vI a1), (2, vJ 0)]) dX11_dueIn_6 rfl (by decide) rfl ?_
  refine e_iconst (pc := 7) (v := 0) dX11_dueIn_7 (by decide) ?_
  refine e_istore (pc := 8) (i := 4) (lv' := [(0, vR m), (1, vI a1), (2, vJ 0), (4, vI 0)]) dX11_dueIn_8 (by decide) rfl ?_
  exact EJ.drop [0, 2, 4] rfl (hv w2 hw2)
abbrev iX11_gotBy_10 (X : Cx) (w0 : Wd) (m : Nat) (A : Int64 → Rs → Prop) (l2 : Int64) (l4 : Int32) (r : Rs) : Prop := ∀ w, Wm w0 m r w → EJ X mX11_gotBy (vw X bX11_gotBy (qM w0 m (pJ A))) 0 0 10 [(0, vR m), (2, vJ l2), (4, vI l4)] [] w
set_option maxRecDepth 100000 in
set_option maxHeartbeats 4000000 in
theorem rX11_gotBy_10 (X : Cx) (w0 : Wd) (m : Nat) (hS : Sh w0 m) (A : Int64 → Rs → Prop) (l2 : Int64) (l4 : Int32) (r : Rs)
    (hv : (((sS r 48) ≤ l4) → A l2 r) ∧ ((¬ (sS r 48) ≤ l4) → vp_in l4 301 ∧ vp_in (rI r 47 l4.toNatClampNeg) 301 ∧ iX11_gotBy_10 X w0 m A (l2 + (rJ r 59 (rI r 47 l4.toNatClampNeg).toNatClampNeg)) (l4 + 1) r)) :
    iX11_gotBy_10 X w0 m A l2 l4 r := by
  intro w hW
  refine e_iload (pc := 10) (i := 4) dX11_gotBy_10 rfl ?_
  refine e_aload_n (pc := 12) (i := 0) dX11_gotBy_12 rfl rfl ?_
  refine n_getS (pc := 13) hS hW 48 dX11_gotBy_13 fRX11_199 rfl ?_
  refine e_icmp_ge (pc := 16) (tgt := 40) dX11_gotBy_16 (by decide) (fun h1 => ?_) (fun h1 => ?_)
  · replace hv := hv.1 h1
    refine e_lload_n (pc := 40) (i := 2) dX11_gotBy_40 rfl rfl ?_
    exact e_lreturn (pc := 41) dX11_gotBy_41 rfl ⟨r, hW, _, rfl, hv⟩
  · replace hv := hv.2 h1
    refine e_lload_n (pc := 19) (i := 2) dX11_gotBy_19 rfl rfl ?_
    refine e_aload_n (pc := 20) (i := 0) dX11_gotBy_20 rfl rfl ?_
    refine n_get (pc := 21) hS hW 59 dX11_gotBy_21 fRX11_148 rfl ?_
    refine e_aload_n (pc := 24) (i := 0) dX11_gotBy_24 rfl rfl ?_
    refine n_get (pc := 25) hS hW 47 dX11_gotBy_25 fRX11_124 rfl ?_
    refine e_iload (pc := 28) (i := 4) dX11_gotBy_28 rfl ?_
    have hi2 : vp_in l4 301 := hv.1
    replace hv := hv.2
    refine n_iald (pc := 30) (wa := w) hS hW 47 dX11_gotBy_30 (by decide) rfl hi2 rfl ?_
    have hi3 : vp_in (rI r 47 l4.toNatClampNeg) 301 := hv.1
    replace hv := hv.2
    refine n_lald (pc := 31) (wa := w) hS hW 59 dX11_gotBy_31 (by decide) rfl hi3 rfl ?_
    refine e_ladd (pc := 32) dX11_gotBy_32 ?_
    refine e_lstore_n (pc := 33) (i := 2) (lv' := [(0, vR m), (2, vJ (l2 + (rJ r 59 (rI r 47 l4.toNatClampNeg).toNatClampNeg))), (4, vI l4)]) dX11_gotBy_33 rfl (by decide) rfl ?_
    refine e_iinc (pc := 34) (v := l4 + 1) (lv' := [(0, vR m), (2, vJ (l2 + (rJ r 59 (rI r 47 l4.toNatClampNeg).toNatClampNeg))), (4, vI (l4 + 1))]) dX11_gotBy_34 rfl rfl (by decide) rfl ?_
    refine e_goto (pc := 37) (tgt := 10) dX11_gotBy_37 (by decide) ?_
    exact hv w hW
set_option maxRecDepth 100000 in
set_option maxHeartbeats 4000000 in
theorem pX11_gotBy (X : Cx) (w0 : Wd) (m : Nat) (hS : Sh w0 m) (A : Int64 → Rs → Prop) (a1 : Int32) (r : Rs)
    (hv : CM X w0 m bX11_leavesOf mX11_leavesOf [vI a1] r (pV fun r3 => iX11_gotBy_10 X w0 m A 0 0 r3)) :
    CM X w0 m bX11_gotBy mX11_gotBy [vI a1] r (pJ A) := by
  intro w hW
  refine Ct.of (Q := qM w0 m (pJ A)) (lv := [(0, vR m), (1, vI a1)]) rfl (Nat.le_of_ble_eq_true rfl) rfl ?_
  refine e_aload_n (pc := 0) (i := 0) dX11_gotBy_0 rfl rfl ?_
  refine e_iload_n (pc := 1) (i := 1) dX11_gotBy_1 rfl rfl ?_
  refine e_callV (pc := 2) (ci := 11) (st := []) (rc' := 0) (rs' := 0) (B' := bX11_leavesOf) [vI a1] dX11_gotBy_2 vRX11_206 kX11_leavesOf (by decide) rfl (hW.K hS) rfl rfl (Nat.le_of_ble_eq_true rfl) ⟨Nat.le_of_ble_eq_true rfl, Nat.le_of_ble_eq_true rfl⟩ rfl rfl (hv w hW) (fun zx1 w2 hq => ?_)
  obtain ⟨r3, hw2, ex1, hv⟩ := hq
  subst ex1
  show EJ X mX11_gotBy _ 0 0 _ _ [] w2
  refine e_lconst (pc := 5) (v := 0) dX11_gotBy_5 (by decide) ?_
  refine e_lstore_n (pc := 6) (i := 2) (lv' := [(0, vR m), (1, vI a1), (2, vJ 0)]) dX11_gotBy_6 rfl (by decide) rfl ?_
  refine e_iconst (pc := 7) (v := 0) dX11_gotBy_7 (by decide) ?_
  refine e_istore (pc := 8) (i := 4) (lv' := [(0, vR m), (1, vI a1), (2, vJ 0), (4, vI 0)]) dX11_gotBy_8 (by decide) rfl ?_
  exact EJ.drop [0, 2, 4] rfl (hv w2 hw2)
abbrev iX11_gets_11 (X : Cx) (w0 : Wd) (m : Nat) (A : Rs → Prop) (l4 : Int64) (l6 : Int32) (r : Rs) : Prop := ∀ w, Wm w0 m r w → EJ X mX11_gets (vw X bX11_gets (qM w0 m (pV A))) 0 0 11 [(0, vR m), (4, vJ l4), (6, vI l6)] [] w
set_option maxRecDepth 100000 in
set_option maxHeartbeats 4000000 in
theorem rX11_gets_11 (X : Cx) (w0 : Wd) (m : Nat) (hS : Sh w0 m) (A : Rs → Prop) (l4 : Int64) (l6 : Int32) (r : Rs)
    (hv : (((sS r 48) ≤ l6) → A r) ∧ ((¬ (sS r 48) ≤ l6) → vp_in l6 301 ∧ vp_in (rI r 47 l6.toNatClampNeg) 301 ∧ vp_in l6 301 ∧ vp_in (rI r 47 l6.toNatClampNeg) 301 ∧ vp_in l6 301 ∧ vp_in (rI r 47 l6.toNatClampNeg) 301 ∧ vp_in (rI r 47 l6.toNatClampNeg) 301 ∧ ∀ r9 : Rs, r9 = uJ r 59 (rI r 47 l6.toNatClampNeg).toNatClampNeg ((rJ r 59 (rI r 47 l6.toNatClampNeg).toNatClampNeg) + (if ((rJ r 60 (rI r 47 l6.toNatClampNeg).toNatClampNeg) - (rJ r 59 (rI r 47 l6.toNatClampNeg).toNatClampNeg)) < l4 then ((rJ r 60 (rI r 47 l6.toNatClampNeg).toNatClampNeg) - (rJ r 59 (rI r 47 l6.toNatClampNeg).toNatClampNeg)) else l4)) → iX11_gets_11 X w0 m A (l4 - (if ((rJ r 60 (rI r 47 l6.toNatClampNeg).toNatClampNeg) - (rJ r 59 (rI r 47 l6.toNatClampNeg).toNatClampNeg)) < l4 then ((rJ r 60 (rI r 47 l6.toNatClampNeg).toNatClampNeg) - (rJ r 59 (rI r 47 l6.toNatClampNeg).toNatClampNeg)) else l4)) (l6 + 1) r9)) :
    iX11_gets_11 X w0 m A l4 l6 r := by
  intro w hW
  refine e_iload (pc := 11) (i := 6) dX11_gets_11 rfl ?_
  refine e_aload_n (pc := 13) (i := 0) dX11_gets_13 rfl rfl ?_
  refine n_getS (pc := 14) hS hW 48 dX11_gets_14 fRX11_199 rfl ?_
  refine e_icmp_ge (pc := 17) (tgt := 82) dX11_gets_17 (by decide) (fun h1 => ?_) (fun h1 => ?_)
  · replace hv := hv.1 h1
    exact e_vreturn (pc := 82) dX11_gets_82 rfl ⟨r, hW, rfl, hv⟩
  · replace hv := hv.2 h1
    refine e_lload (pc := 20) (i := 4) dX11_gets_20 rfl ?_
    refine e_aload_n (pc := 22) (i := 0) dX11_gets_22 rfl rfl ?_
    refine n_get (pc := 23) hS hW 60 dX11_gets_23 fRX11_151 rfl ?_
    refine e_aload_n (pc := 26) (i := 0) dX11_gets_26 rfl rfl ?_
    refine n_get (pc := 27) hS hW 47 dX11_gets_27 fRX11_124 rfl ?_
    refine e_iload (pc := 30) (i := 6) dX11_gets_30 rfl ?_
    have hi2 : vp_in l6 301 := hv.1
    replace hv := hv.2
    refine n_iald (pc := 32) (wa := w) hS hW 47 dX11_gets_32 (by decide) rfl hi2 rfl ?_
    have hi3 : vp_in (rI r 47 l6.toNatClampNeg) 301 := hv.1
    replace hv := hv.2
    refine n_lald (pc := 33) (wa := w) hS hW 60 dX11_gets_33 (by decide) rfl hi3 rfl ?_
    refine e_aload_n (pc := 34) (i := 0) dX11_gets_34 rfl rfl ?_
    refine n_get (pc := 35) hS hW 59 dX11_gets_35 fRX11_148 rfl ?_
    refine e_aload_n (pc := 38) (i := 0) dX11_gets_38 rfl rfl ?_
    refine n_get (pc := 39) hS hW 47 dX11_gets_39 fRX11_124 rfl ?_
    refine e_iload (pc := 42) (i := 6) dX11_gets_42 rfl ?_
    have hi4 : vp_in l6 301 := hv.1
    replace hv := hv.2
    refine n_iald (pc := 44) (wa := w) hS hW 47 dX11_gets_44 (by decide) rfl hi4 rfl ?_
    have hi5 : vp_in (rI r 47 l6.toNatClampNeg) 301 := hv.1
    replace hv := hv.2
    refine n_lald (pc := 45) (wa := w) hS hW 59 dX11_gets_45 (by decide) rfl hi5 rfl ?_
    refine e_lsub (pc := 46) dX11_gets_46 ?_
    refine e_mminJ (pc := 47) dX11_gets_47 (tb_a5 138 (by decide +kernel) rfl) (Nat.le_of_ble_eq_true rfl) (Nat.le_of_ble_eq_true rfl) ?_
    refine e_lstore (pc := 50) (i := 7) (lv' := [(0, vR m), (4, vJ l4), (6, vI l6), (7, vJ (if ((rJ r 60 (rI r 47 l6.toNatClampNeg).toNatClampNeg) - (rJ r 59 (rI r 47 l6.toNatClampNeg).toNatClampNeg)) < l4 then ((rJ r 60 (rI r 47 l6.toNatClampNeg).toNatClampNeg) - (rJ r 59 (rI r 47 l6.toNatClampNeg).toNatClampNeg)) else l4))]) dX11_gets_50 (by decide) rfl ?_
    refine e_aload_n (pc := 52) (i := 0) dX11_gets_52 rfl rfl ?_
    refine n_get (pc := 53) hS hW 59 dX11_gets_53 fRX11_148 rfl ?_
    refine e_aload_n (pc := 56) (i := 0) dX11_gets_56 rfl rfl ?_
    refine n_get (pc := 57) hS hW 47 dX11_gets_57 fRX11_124 rfl ?_
    refine e_iload (pc := 60) (i := 6) dX11_gets_60 rfl ?_
    have hi6 : vp_in l6 301 := hv.1
    replace hv := hv.2
    refine n_iald (pc := 62) (wa := w) hS hW 47 dX11_gets_62 (by decide) rfl hi6 rfl ?_
    refine e_dup2_11 (pc := 63) dX11_gets_63 rfl rfl ?_
    have hi7 : vp_in (rI r 47 l6.toNatClampNeg) 301 := hv.1
    replace hv := hv.2
    refine n_lald (pc := 64) (wa := w) hS hW 59 dX11_gets_64 (by decide) rfl hi7 rfl ?_
    refine e_lload (pc := 65) (i := 7) dX11_gets_65 rfl ?_
    refine e_ladd (pc := 67) dX11_gets_67 ?_
    have hi8 : vp_in (rI r 47 l6.toNatClampNeg) 301 := hv.1
    replace hv := hv.2
    refine n_last (pc := 68) (wa := w) hS hW 59 dX11_gets_68 (by decide) rfl hi8 rfl (fun w10 hw10 => ?_)
    obtain ⟨r9, er9⟩ : ∃ r9 : Rs, r9 = uJ r 59 (rI r 47 l6.toNatClampNeg).toNatClampNeg ((rJ r 59 (rI r 47 l6.toNatClampNeg).toNatClampNeg) + (if ((rJ r 60 (rI r 47 l6.toNatClampNeg).toNatClampNeg) - (rJ r 59 (rI r 47 l6.toNatClampNeg).toNatClampNeg)) < l4 then ((rJ r 60 (rI r 47 l6.toNatClampNeg).toNatClampNeg) - (rJ r 59 (rI r 47 l6.toNatClampNeg).toNatClampNeg)) else l4)) := ⟨_, rfl⟩
    replace hv := hv r9 er9
    rw [← er9] at hw10
    refine e_lload (pc := 69) (i := 4) dX11_gets_69 rfl ?_
    refine e_lload (pc := 71) (i := 7) dX11_gets_71 rfl ?_
    refine e_lsub (pc := 73) dX11_gets_73 ?_
    refine e_lstore (pc := 74) (i := 4) (lv' := [(0, vR m), (4, vJ (l4 - (if ((rJ r 60 (rI r 47 l6.toNatClampNeg).toNatClampNeg) - (rJ r 59 (rI r 47 l6.toNatClampNeg).toNatClampNeg)) < l4 then ((rJ r 60 (rI r 47 l6.toNatClampNeg).toNatClampNeg) - (rJ r 59 (rI r 47 l6.toNatClampNeg).toNatClampNeg)) else l4))), (6, vI l6), (7, vJ (if ((rJ r 60 (rI r 47 l6.toNatClampNeg).toNatClampNeg) - (rJ r 59 (rI r 47 l6.toNatClampNeg).toNatClampNeg)) < l4 then ((rJ r 60 (rI r 47 l6.toNatClampNeg).toNatClampNeg) - (rJ r 59 (rI r 47 l6.toNatClampNeg).toNatClampNeg)) else l4))]) dX11_gets_74 (by decide) rfl ?_
    refine e_iinc (pc := 76) (v := l6 + 1) (lv' := [(0, vR m), (4, vJ (l4 - (if ((rJ r 60 (rI r 47 l6.toNatClampNeg).toNatClampNeg) - (rJ r 59 (rI r 47 l6.toNatClampNeg).toNatClampNeg)) < l4 then ((rJ r 60 (rI r 47 l6.toNatClampNeg).toNatClampNeg) - (rJ r 59 (rI r 47 l6.toNatClampNeg).toNatClampNeg)) else l4))), (6, vI (l6 + 1)), (7, vJ (if ((rJ r 60 (rI r 47 l6.toNatClampNeg).toNatClampNeg) - (rJ r 59 (rI r 47 l6.toNatClampNeg).toNatClampNeg)) < l4 then ((rJ r 60 (rI r 47 l6.toNatClampNeg).toNatClampNeg) - (rJ r 59 (rI r 47 l6.toNatClampNeg).toNatClampNeg)) else l4))]) dX11_gets_76 rfl rfl (by decide) rfl ?_
    refine e_goto (pc := 79) (tgt := 11) dX11_gets_79 (by decide) ?_
    exact EJ.drop [0, 4, 6] rfl (hv w10 hw10)
set_option maxRecDepth 100000 in
set_option maxHeartbeats 4000000 in
theorem pX11_gets (X : Cx) (w0 : Wd) (m : Nat) (hS : Sh w0 m) (A : Rs → Prop) (a1 : Int32) (a2 : Int64) (r : Rs)
    (hv : CM X w0 m bX11_leavesOf mX11_leavesOf [vI a1] r (pV fun r3 => iX11_gets_11 X w0 m A a2 0 r3)) :
    CM X w0 m bX11_gets mX11_gets [vI a1, vJ a2] r (pV A) := by
  intro w hW
  refine Ct.of (Q := qM w0 m (pV A)) (lv := [(0, vR m), (1, vI a1), (2, vJ a2)]) rfl (Nat.le_of_ble_eq_true rfl) rfl ?_
  refine e_aload_n (pc := 0) (i := 0) dX11_gets_0 rfl rfl ?_
  refine e_iload_n (pc := 1) (i := 1) dX11_gets_1 rfl rfl ?_
  refine e_callV (pc := 2) (ci := 11) (st := []) (rc' := 0) (rs' := 0) (B' := bX11_leavesOf) [vI a1] dX11_gets_2 vRX11_206 kX11_leavesOf (by decide) rfl (hW.K hS) rfl rfl (Nat.le_of_ble_eq_true rfl) ⟨Nat.le_of_ble_eq_true rfl, Nat.le_of_ble_eq_true rfl⟩ rfl rfl (hv w hW) (fun zx1 w2 hq => ?_)
  obtain ⟨r3, hw2, ex1, hv⟩ := hq
  subst ex1
  show EJ X mX11_gets _ 0 0 _ _ [] w2
  refine e_lload_n (pc := 5) (i := 2) dX11_gets_5 rfl rfl ?_
  refine e_lstore (pc := 6) (i := 4) (lv' := [(0, vR m), (1, vI a1), (2, vJ a2), (4, vJ a2)]) dX11_gets_6 (by decide) rfl ?_
  refine e_iconst (pc := 8) (v := 0) dX11_gets_8 (by decide) ?_
  refine e_istore (pc := 9) (i := 6) (lv' := [(0, vR m), (1, vI a1), (2, vJ a2), (4, vJ a2), (6, vI 0)]) dX11_gets_9 (by decide) rfl ?_
  exact EJ.drop [0, 4, 6] rfl (hv w2 hw2)
abbrev iX11_gives_16 (X : Cx) (w0 : Wd) (m : Nat) (A : Rs → Prop) (l4 : Int64) (l6 : Int32) (r : Rs) : Prop := ∀ w, Wm w0 m r w → EJ X mX11_gives (vw X bX11_gives (qM w0 m (pV A))) 0 0 16 [(0, vR m), (4, vJ l4), (6, vI l6)] [] w
set_option maxRecDepth 100000 in
set_option maxHeartbeats 4000000 in
theorem rX11_gives_16 (X : Cx) (w0 : Wd) (m : Nat) (hS : Sh w0 m) (A : Rs → Prop) (l4 : Int64) (l6 : Int32) (r : Rs)
    (hv : ((l6 < 0) → A r) ∧ ((¬ l6 < 0) → vp_in l6 301 ∧ vp_in (rI r 47 l6.toNatClampNeg) 301 ∧ vp_in l6 301 ∧ vp_in (rI r 47 l6.toNatClampNeg) 301 ∧ vp_in (rI r 47 l6.toNatClampNeg) 301 ∧ ∀ r7 : Rs, r7 = uJ r 59 (rI r 47 l6.toNatClampNeg).toNatClampNeg ((rJ r 59 (rI r 47 l6.toNatClampNeg).toNatClampNeg) - (if (rJ r 59 (rI r 47 l6.toNatClampNeg).toNatClampNeg) < l4 then (rJ r 59 (rI r 47 l6.toNatClampNeg).toNatClampNeg) else l4)) → iX11_gives_16 X w0 m A (l4 - (if (rJ r 59 (rI r 47 l6.toNatClampNeg).toNatClampNeg) < l4 then (rJ r 59 (rI r 47 l6.toNatClampNeg).toNatClampNeg) else l4)) (l6 + (-1)) r7)) :
    iX11_gives_16 X w0 m A l4 l6 r := by
  intro w hW
  refine e_iload (pc := 16) (i := 6) dX11_gives_16 rfl ?_
  refine e_if_lt (pc := 18) (tgt := 70) dX11_gives_18 (by decide) (fun h1 => ?_) (fun h1 => ?_)
  · replace hv := hv.1 h1
    exact e_vreturn (pc := 70) dX11_gives_70 rfl ⟨r, hW, rfl, hv⟩
  · replace hv := hv.2 h1
    refine e_lload (pc := 21) (i := 4) dX11_gives_21 rfl ?_
    refine e_aload_n (pc := 23) (i := 0) dX11_gives_23 rfl rfl ?_
    refine n_get (pc := 24) hS hW 59 dX11_gives_24 fRX11_148 rfl ?_
    refine e_aload_n (pc := 27) (i := 0) dX11_gives_27 rfl rfl ?_
    refine n_get (pc := 28) hS hW 47 dX11_gives_28 fRX11_124 rfl ?_
    refine e_iload (pc := 31) (i := 6) dX11_gives_31 rfl ?_
    have hi2 : vp_in l6 301 := hv.1
    replace hv := hv.2
    refine n_iald (pc := 33) (wa := w) hS hW 47 dX11_gives_33 (by decide) rfl hi2 rfl ?_
    have hi3 : vp_in (rI r 47 l6.toNatClampNeg) 301 := hv.1
    replace hv := hv.2
    refine n_lald (pc := 34) (wa := w) hS hW 59 dX11_gives_34 (by decide) rfl hi3 rfl ?_
    refine e_mminJ (pc := 35) dX11_gives_35 (tb_a5 138 (by decide +kernel) rfl) (Nat.le_of_ble_eq_true rfl) (Nat.le_of_ble_eq_true rfl) ?_
    refine e_lstore (pc := 38) (i := 7) (lv' := [(0, vR m), (4, vJ l4), (6, vI l6), (7, vJ (if (rJ r 59 (rI r 47 l6.toNatClampNeg).toNatClampNeg) < l4 then (rJ r 59 (rI r 47 l6.toNatClampNeg).toNatClampNeg) else l4))]) dX11_gives_38 (by decide) rfl ?_
    refine e_aload_n (pc := 40) (i := 0) dX11_gives_40 rfl rfl ?_
    refine n_get (pc := 41) hS hW 59 dX11_gives_41 fRX11_148 rfl ?_
    refine e_aload_n (pc := 44) (i := 0) dX11_gives_44 rfl rfl ?_
    refine n_get (pc := 45) hS hW 47 dX11_gives_45 fRX11_124 rfl ?_
    refine e_iload (pc := 48) (i := 6) dX11_gives_48 rfl ?_
    have hi4 : vp_in l6 301 := hv.1
    replace hv := hv.2
    refine n_iald (pc := 50) (wa := w) hS hW 47 dX11_gives_50 (by decide) rfl hi4 rfl ?_
    refine e_dup2_11 (pc := 51) dX11_gives_51 rfl rfl ?_
    have hi5 : vp_in (rI r 47 l6.toNatClampNeg) 301 := hv.1
    replace hv := hv.2
    refine n_lald (pc := 52) (wa := w) hS hW 59 dX11_gives_52 (by decide) rfl hi5 rfl ?_
    refine e_lload (pc := 53) (i := 7) dX11_gives_53 rfl ?_
    refine e_lsub (pc := 55) dX11_gives_55 ?_
    have hi6 : vp_in (rI r 47 l6.toNatClampNeg) 301 := hv.1
    replace hv := hv.2
    refine n_last (pc := 56) (wa := w) hS hW 59 dX11_gives_56 (by decide) rfl hi6 rfl (fun w8 hw8 => ?_)
    obtain ⟨r7, er7⟩ : ∃ r7 : Rs, r7 = uJ r 59 (rI r 47 l6.toNatClampNeg).toNatClampNeg ((rJ r 59 (rI r 47 l6.toNatClampNeg).toNatClampNeg) - (if (rJ r 59 (rI r 47 l6.toNatClampNeg).toNatClampNeg) < l4 then (rJ r 59 (rI r 47 l6.toNatClampNeg).toNatClampNeg) else l4)) := ⟨_, rfl⟩
    replace hv := hv r7 er7
    rw [← er7] at hw8
    refine e_lload (pc := 57) (i := 4) dX11_gives_57 rfl ?_
    refine e_lload (pc := 59) (i := 7) dX11_gives_59 rfl ?_
    refine e_lsub (pc := 61) dX11_gives_61 ?_
    refine e_lstore (pc := 62) (i := 4) (lv' := [(0, vR m), (4, vJ (l4 - (if (rJ r 59 (rI r 47 l6.toNatClampNeg).toNatClampNeg) < l4 then (rJ r 59 (rI r 47 l6.toNatClampNeg).toNatClampNeg) else l4))), (6, vI l6), (7, vJ (if (rJ r 59 (rI r 47 l6.toNatClampNeg).toNatClampNeg) < l4 then (rJ r 59 (rI r 47 l6.toNatClampNeg).toNatClampNeg) else l4))]) dX11_gives_62 (by decide) rfl ?_
    refine e_iinc (pc := 64) (v := l6 + (-1)) (lv' := [(0, vR m), (4, vJ (l4 - (if (rJ r 59 (rI r 47 l6.toNatClampNeg).toNatClampNeg) < l4 then (rJ r 59 (rI r 47 l6.toNatClampNeg).toNatClampNeg) else l4))), (6, vI (l6 + (-1))), (7, vJ (if (rJ r 59 (rI r 47 l6.toNatClampNeg).toNatClampNeg) < l4 then (rJ r 59 (rI r 47 l6.toNatClampNeg).toNatClampNeg) else l4))]) dX11_gives_64 rfl rfl (by decide) rfl ?_
    refine e_goto (pc := 67) (tgt := 16) dX11_gives_67 (by decide) ?_
    exact EJ.drop [0, 4, 6] rfl (hv w8 hw8)
set_option maxRecDepth 100000 in
set_option maxHeartbeats 4000000 in
theorem pX11_gives (X : Cx) (w0 : Wd) (m : Nat) (hS : Sh w0 m) (A : Rs → Prop) (a1 : Int32) (a2 : Int64) (r : Rs)
    (hv : CM X w0 m bX11_leavesOf mX11_leavesOf [vI a1] r (pV fun r3 => iX11_gives_16 X w0 m A a2 ((sS r3 48) - 1) r3)) :
    CM X w0 m bX11_gives mX11_gives [vI a1, vJ a2] r (pV A) := by
  intro w hW
  refine Ct.of (Q := qM w0 m (pV A)) (lv := [(0, vR m), (1, vI a1), (2, vJ a2)]) rfl (Nat.le_of_ble_eq_true rfl) rfl ?_
  refine e_aload_n (pc := 0) (i := 0) dX11_gives_0 rfl rfl ?_
  refine e_iload_n (pc := 1) (i := 1) dX11_gives_1 rfl rfl ?_
  refine e_callV (pc := 2) (ci := 11) (st := []) (rc' := 0) (rs' := 0) (B' := bX11_leavesOf) [vI a1] dX11_gives_2 vRX11_206 kX11_leavesOf (by decide) rfl (hW.K hS) rfl rfl (Nat.le_of_ble_eq_true rfl) ⟨Nat.le_of_ble_eq_true rfl, Nat.le_of_ble_eq_true rfl⟩ rfl rfl (hv w hW) (fun zx1 w2 hq => ?_)
  obtain ⟨r3, hw2, ex1, hv⟩ := hq
  subst ex1
  show EJ X mX11_gives _ 0 0 _ _ [] w2
  refine e_lload_n (pc := 5) (i := 2) dX11_gives_5 rfl rfl ?_
  refine e_lstore (pc := 6) (i := 4) (lv' := [(0, vR m), (1, vI a1), (2, vJ a2), (4, vJ a2)]) dX11_gives_6 (by decide) rfl ?_
  refine e_aload_n (pc := 8) (i := 0) dX11_gives_8 rfl rfl ?_
  refine n_getS (pc := 9) hS hw2 48 dX11_gives_9 fRX11_199 rfl ?_
  refine e_iconst (pc := 12) (v := 1) dX11_gives_12 (by decide) ?_
  refine e_isub (pc := 13) dX11_gives_13 ?_
  refine e_istore (pc := 14) (i := 6) (lv' := [(0, vR m), (1, vI a1), (2, vJ a2), (4, vJ a2), (6, vI ((sS r3 48) - 1))]) dX11_gives_14 (by decide) rfl ?_
  exact EJ.drop [0, 4, 6] rfl (hv w2 hw2)
abbrev iX11_prepare_2 (X : Cx) (w0 : Wd) (m : Nat) (A : Rs → Prop) (l1 : Int32) (l2 : Int32) (r : Rs) : Prop := ∀ w, Wm w0 m r w → EJ X mX11_prepare (vw X bX11_prepare (qM w0 m (pV A))) 0 0 2 [(0, vR m), (1, vI l1), (2, vI l2)] [] w
abbrev iX11_prepare_39 (X : Cx) (w0 : Wd) (m : Nat) (A : Rs → Prop) (l1 : Int32) (l2 : Int32) (r : Rs) : Prop := ∀ w, Wm w0 m r w → EJ X mX11_prepare (vw X bX11_prepare (qM w0 m (pV A))) 0 0 39 [(0, vR m), (1, vI l1), (2, vI l2)] [] w
abbrev iX11_prepare_59 (X : Cx) (w0 : Wd) (m : Nat) (A : Rs → Prop) (l1 : Int32) (l2 : Int32) (l3 : Int32) (r : Rs) : Prop := ∀ w, Wm w0 m r w → EJ X mX11_prepare (vw X bX11_prepare (qM w0 m (pV A))) 0 0 59 [(0, vR m), (1, vI l1), (2, vI l2), (3, vI l3)] [] w
set_option maxRecDepth 100000 in
set_option maxHeartbeats 4000000 in
theorem rX11_prepare_59 (X : Cx) (w0 : Wd) (m : Nat) (hS : Sh w0 m) (A : Rs → Prop) (l1 : Int32) (l2 : Int32) (l3 : Int32) (r : Rs)
    (hv : (((sS r 48) ≤ l3) → iX11_prepare_39 X w0 m A l1 (l2 + 1) r) ∧ ((¬ (sS r 48) ≤ l3) → vp_in l3 301 ∧ CM X w0 m bX11_isOff mX11_isOff [vI (rI r 47 l3.toNatClampNeg), vI l1] r (pI fun x3 r5 => ((¬ x3 = 0) → vp_in (rI r 47 l3.toNatClampNeg) 301 ∧ ∀ r8 : Rs, r8 = uI r5 61 (rI r 47 l3.toNatClampNeg).toNatClampNeg 0 → vp_in (rI r 47 l3.toNatClampNeg) 301 ∧ (((rI r8 61 (rI r 47 l3.toNatClampNeg).toNatClampNeg) = 0) → vp_in (rI r 47 l3.toNatClampNeg) 301 ∧ ∀ r13 : Rs, r13 = uJ r8 60 (rI r 47 l3.toNatClampNeg).toNatClampNeg 0 → iX11_prepare_59 X w0 m A l1 l2 (l3 + 1) r13) ∧ ((¬ (rI r8 61 (rI r 47 l3.toNatClampNeg).toNatClampNeg) = 0) → vp_in (rI r 47 l3.toNatClampNeg) 301 ∧ vp_in (rI r 47 l3.toNatClampNeg) 301 ∧ ∀ r17 : Rs, r17 = uJ r8 60 (rI r 47 l3.toNatClampNeg).toNatClampNeg (rJ r8 49 (rI r 47 l3.toNatClampNeg).toNatClampNeg) → iX11_prepare_59 X w0 m A l1 l2 (l3 + 1) r17)) ∧ ((x3 = 0) → vp_in (rI r 47 l3.toNatClampNeg) 301 ∧ ∀ r20 : Rs, r20 = uI r5 61 (rI r 47 l3.toNatClampNeg).toNatClampNeg 1 → vp_in (rI r 47 l3.toNatClampNeg) 301 ∧ (((rI r20 61 (rI r 47 l3.toNatClampNeg).toNatClampNeg) = 0) → vp_in (rI r 47 l3.toNatClampNeg) 301 ∧ ∀ r25 : Rs, r25 = uJ r20 60 (rI r 47 l3.toNatClampNeg).toNatClampNeg 0 → iX11_prepare_59 X w0 m A l1 l2 (l3 + 1) r25) ∧ ((¬ (rI r20 61 (rI r 47 l3.toNatClampNeg).toNatClampNeg) = 0) → vp_in (rI r 47 l3.toNatClampNeg) 301 ∧ vp_in (rI r 47 l3.toNatClampNeg) 301 ∧ ∀ r29 : Rs, r29 = uJ r20 60 (rI r 47 l3.toNatClampNeg).toNatClampNeg (rJ r20 49 (rI r 47 l3.toNatClampNeg).toNatClampNeg) → iX11_prepare_59 X w0 m A l1 l2 (l3 + 1) r29))))) :
    iX11_prepare_59 X w0 m A l1 l2 l3 r := by
  intro w hW
  refine e_iload_n (pc := 59) (i := 3) dX11_prepare_59 rfl rfl ?_
  refine e_aload_n (pc := 60) (i := 0) dX11_prepare_60 rfl rfl ?_
  refine n_getS (pc := 61) hS hW 48 dX11_prepare_61 fRX11_199 rfl ?_
  refine e_icmp_ge (pc := 64) (tgt := 131) dX11_prepare_64 (by decide) (fun h1 => ?_) (fun h1 => ?_)
  · replace hv := hv.1 h1
    refine e_iinc (pc := 131) (v := l2 + 1) (lv' := [(0, vR m), (1, vI l1), (2, vI (l2 + 1)), (3, vI l3)]) dX11_prepare_131 rfl rfl (by decide) rfl ?_
    refine e_goto (pc := 134) (tgt := 39) dX11_prepare_134 (by decide) ?_
    exact EJ.drop [0, 1, 2] rfl (hv w hW)
  · replace hv := hv.2 h1
    refine e_aload_n (pc := 67) (i := 0) dX11_prepare_67 rfl rfl ?_
    refine n_get (pc := 68) hS hW 47 dX11_prepare_68 fRX11_124 rfl ?_
    refine e_iload_n (pc := 71) (i := 3) dX11_prepare_71 rfl rfl ?_
    have hi2 : vp_in l3 301 := hv.1
    replace hv := hv.2
    refine n_iald (pc := 72) (wa := w) hS hW 47 dX11_prepare_72 (by decide) rfl hi2 rfl ?_
    refine e_istore (pc := 73) (i := 4) (lv' := [(0, vR m), (1, vI l1), (2, vI l2), (3, vI l3), (4, vI (rI r 47 l3.toNatClampNeg))]) dX11_prepare_73 (by decide) rfl ?_
    refine e_aload_n (pc := 75) (i := 0) dX11_prepare_75 rfl rfl ?_
    refine n_get (pc := 76) hS hW 61 dX11_prepare_76 fRX11_154 rfl ?_
    refine e_iload (pc := 79) (i := 4) dX11_prepare_79 rfl ?_
    refine e_aload_n (pc := 81) (i := 0) dX11_prepare_81 rfl rfl ?_
    refine e_iload (pc := 82) (i := 4) dX11_prepare_82 rfl ?_
    refine e_iload_n (pc := 84) (i := 1) dX11_prepare_84 rfl rfl ?_
    refine e_callV (pc := 85) (ci := 11) (st := [vI (rI r 47 l3.toNatClampNeg), vR (wR w 11 61 m)]) (rc' := 0) (rs' := 0) (B' := bX11_isOff) [vI (rI r 47 l3.toNatClampNeg), vI l1] dX11_prepare_85 vRX11_189 kX11_isOff (by decide) rfl (hW.K hS) rfl rfl (Nat.le_of_ble_eq_true rfl) ⟨Nat.le_of_ble_eq_true rfl, Nat.le_of_ble_eq_true rfl⟩ rfl rfl (hv w hW) (fun zx3 w4 hq => ?_)
    obtain ⟨r5, hw4, x3, ex3, hv⟩ := hq
    subst ex3
    show EJ X mX11_prepare _ 0 0 _ _ (vI x3 :: [vI (rI r 47 l3.toNatClampNeg), vR (wR w 11 61 m)]) w4
    refine e_if_ne (pc := 88) (tgt := 95) dX11_prepare_88 (by decide) (fun h6 => ?_) (fun h6 => ?_)
    · replace hv := hv.1 h6
      refine e_iconst (pc := 95) (v := 0) dX11_prepare_95 (by decide) ?_
      have hi7 : vp_in (rI r 47 l3.toNatClampNeg) 301 := hv.1
      replace hv := hv.2
      refine n_zast (pc := 96) (wa := w) hS hw4 61 dX11_prepare_96 (by decide) rfl hi7 (Wm.same hW hw4) (Or.inl rfl) (fun w9 hw9 => ?_)
      obtain ⟨r8, er8⟩ : ∃ r8 : Rs, r8 = uI r5 61 (rI r 47 l3.toNatClampNeg).toNatClampNeg 0 := ⟨_, rfl⟩
      replace hv := hv r8 er8
      rw [← er8] at hw9
      refine e_aload_n (pc := 97) (i := 0) dX11_prepare_97 rfl rfl ?_
      refine n_get (pc := 98) hS hw9 60 dX11_prepare_98 fRX11_151 rfl ?_
      refine e_iload (pc := 101) (i := 4) dX11_prepare_101 rfl ?_
      refine e_aload_n (pc := 103) (i := 0) dX11_prepare_103 rfl rfl ?_
      refine n_get (pc := 104) hS hw9 61 dX11_prepare_104 fRX11_154 rfl ?_
      refine e_iload (pc := 107) (i := 4) dX11_prepare_107 rfl ?_
      have hi10 : vp_in (rI r 47 l3.toNatClampNeg) 301 := hv.1
      replace hv := hv.2
      refine n_zald (pc := 109) (wa := w9) hS hw9 61 dX11_prepare_109 (by decide) rfl hi10 rfl ?_
      refine e_if_eq (pc := 110) (tgt := 123) dX11_prepare_110 (by decide) (fun h11 => ?_) (fun h11 => ?_)
      · replace hv := hv.1 h11
        refine e_lconst (pc := 123) (v := 0) dX11_prepare_123 (by decide) ?_
        have hi12 : vp_in (rI r 47 l3.toNatClampNeg) 301 := hv.1
        replace hv := hv.2
        refine n_last (pc := 124) (wa := w9) hS hw9 60 dX11_prepare_124 (by decide) rfl hi12 rfl (fun w14 hw14 => ?_)
        obtain ⟨r13, er13⟩ : ∃ r13 : Rs, r13 = uJ r8 60 (rI r 47 l3.toNatClampNeg).toNatClampNeg 0 := ⟨_, rfl⟩
        replace hv := hv r13 er13
        rw [← er13] at hw14
        refine e_iinc (pc := 125) (v := l3 + 1) (lv' := [(0, vR m), (1, vI l1), (2, vI l2), (3, vI (l3 + 1)), (4, vI (rI r 47 l3.toNatClampNeg))]) dX11_prepare_125 rfl rfl (by decide) rfl ?_
        refine e_goto (pc := 128) (tgt := 59) dX11_prepare_128 (by decide) ?_
        exact EJ.drop [0, 1, 2, 3] rfl (hv w14 hw14)
      · replace hv := hv.2 h11
        refine e_aload_n (pc := 113) (i := 0) dX11_prepare_113 rfl rfl ?_
        refine n_get (pc := 114) hS hw9 49 dX11_prepare_114 fRX11_127 rfl ?_
        refine e_iload (pc := 117) (i := 4) dX11_prepare_117 rfl ?_
        have hi15 : vp_in (rI r 47 l3.toNatClampNeg) 301 := hv.1
        replace hv := hv.2
        refine n_lald (pc := 119) (wa := w9) hS hw9 49 dX11_prepare_119 (by decide) rfl hi15 rfl ?_
        refine e_goto (pc := 120) (tgt := 124) dX11_prepare_120 (by decide) ?_
        have hi16 : vp_in (rI r 47 l3.toNatClampNeg) 301 := hv.1
        replace hv := hv.2
        refine n_last (pc := 124) (wa := w9) hS hw9 60 dX11_prepare_124 (by decide) rfl hi16 rfl (fun w18 hw18 => ?_)
        obtain ⟨r17, er17⟩ : ∃ r17 : Rs, r17 = uJ r8 60 (rI r 47 l3.toNatClampNeg).toNatClampNeg (rJ r8 49 (rI r 47 l3.toNatClampNeg).toNatClampNeg) := ⟨_, rfl⟩
        replace hv := hv r17 er17
        rw [← er17] at hw18
        refine e_iinc (pc := 125) (v := l3 + 1) (lv' := [(0, vR m), (1, vI l1), (2, vI l2), (3, vI (l3 + 1)), (4, vI (rI r 47 l3.toNatClampNeg))]) dX11_prepare_125 rfl rfl (by decide) rfl ?_
        refine e_goto (pc := 128) (tgt := 59) dX11_prepare_128 (by decide) ?_
        exact EJ.drop [0, 1, 2, 3] rfl (hv w18 hw18)
    · replace hv := hv.2 h6
      refine e_iconst (pc := 91) (v := 1) dX11_prepare_91 (by decide) ?_
      refine e_goto (pc := 92) (tgt := 96) dX11_prepare_92 (by decide) ?_
      have hi19 : vp_in (rI r 47 l3.toNatClampNeg) 301 := hv.1
      replace hv := hv.2
      refine n_zast (pc := 96) (wa := w) hS hw4 61 dX11_prepare_96 (by decide) rfl hi19 (Wm.same hW hw4) (Or.inr rfl) (fun w21 hw21 => ?_)
      obtain ⟨r20, er20⟩ : ∃ r20 : Rs, r20 = uI r5 61 (rI r 47 l3.toNatClampNeg).toNatClampNeg 1 := ⟨_, rfl⟩
      replace hv := hv r20 er20
      rw [← er20] at hw21
      refine e_aload_n (pc := 97) (i := 0) dX11_prepare_97 rfl rfl ?_
      refine n_get (pc := 98) hS hw21 60 dX11_prepare_98 fRX11_151 rfl ?_
      refine e_iload (pc := 101) (i := 4) dX11_prepare_101 rfl ?_
      refine e_aload_n (pc := 103) (i := 0) dX11_prepare_103 rfl rfl ?_
      refine n_get (pc := 104) hS hw21 61 dX11_prepare_104 fRX11_154 rfl ?_
      refine e_iload (pc := 107) (i := 4) dX11_prepare_107 rfl ?_
      have hi22 : vp_in (rI r 47 l3.toNatClampNeg) 301 := hv.1
      replace hv := hv.2
      refine n_zald (pc := 109) (wa := w21) hS hw21 61 dX11_prepare_109 (by decide) rfl hi22 rfl ?_
      refine e_if_eq (pc := 110) (tgt := 123) dX11_prepare_110 (by decide) (fun h23 => ?_) (fun h23 => ?_)
      · replace hv := hv.1 h23
        refine e_lconst (pc := 123) (v := 0) dX11_prepare_123 (by decide) ?_
        have hi24 : vp_in (rI r 47 l3.toNatClampNeg) 301 := hv.1
        replace hv := hv.2
        refine n_last (pc := 124) (wa := w21) hS hw21 60 dX11_prepare_124 (by decide) rfl hi24 rfl (fun w26 hw26 => ?_)
        obtain ⟨r25, er25⟩ : ∃ r25 : Rs, r25 = uJ r20 60 (rI r 47 l3.toNatClampNeg).toNatClampNeg 0 := ⟨_, rfl⟩
        replace hv := hv r25 er25
        rw [← er25] at hw26
        refine e_iinc (pc := 125) (v := l3 + 1) (lv' := [(0, vR m), (1, vI l1), (2, vI l2), (3, vI (l3 + 1)), (4, vI (rI r 47 l3.toNatClampNeg))]) dX11_prepare_125 rfl rfl (by decide) rfl ?_
        refine e_goto (pc := 128) (tgt := 59) dX11_prepare_128 (by decide) ?_
        exact EJ.drop [0, 1, 2, 3] rfl (hv w26 hw26)
      · replace hv := hv.2 h23
        refine e_aload_n (pc := 113) (i := 0) dX11_prepare_113 rfl rfl ?_
        refine n_get (pc := 114) hS hw21 49 dX11_prepare_114 fRX11_127 rfl ?_
        refine e_iload (pc := 117) (i := 4) dX11_prepare_117 rfl ?_
        have hi27 : vp_in (rI r 47 l3.toNatClampNeg) 301 := hv.1
        replace hv := hv.2
        refine n_lald (pc := 119) (wa := w21) hS hw21 49 dX11_prepare_119 (by decide) rfl hi27 rfl ?_
        refine e_goto (pc := 120) (tgt := 124) dX11_prepare_120 (by decide) ?_
        have hi28 : vp_in (rI r 47 l3.toNatClampNeg) 301 := hv.1
        replace hv := hv.2
        refine n_last (pc := 124) (wa := w21) hS hw21 60 dX11_prepare_124 (by decide) rfl hi28 rfl (fun w30 hw30 => ?_)
        obtain ⟨r29, er29⟩ : ∃ r29 : Rs, r29 = uJ r20 60 (rI r 47 l3.toNatClampNeg).toNatClampNeg (rJ r20 49 (rI r 47 l3.toNatClampNeg).toNatClampNeg) := ⟨_, rfl⟩
        replace hv := hv r29 er29
        rw [← er29] at hw30
        refine e_iinc (pc := 125) (v := l3 + 1) (lv' := [(0, vR m), (1, vI l1), (2, vI l2), (3, vI (l3 + 1)), (4, vI (rI r 47 l3.toNatClampNeg))]) dX11_prepare_125 rfl rfl (by decide) rfl ?_
        refine e_goto (pc := 128) (tgt := 59) dX11_prepare_128 (by decide) ?_
        exact EJ.drop [0, 1, 2, 3] rfl (hv w30 hw30)
set_option maxRecDepth 100000 in
set_option maxHeartbeats 4000000 in
theorem rX11_prepare_39 (X : Cx) (w0 : Wd) (m : Nat) (hS : Sh w0 m) (A : Rs → Prop) (l1 : Int32) (l2 : Int32) (r : Rs)
    (hv : (((sS r 58) ≤ l2) → A r) ∧ ((¬ (sS r 58) ≤ l2) → vp_in l2 301 ∧ CM X w0 m bX11_dues mX11_dues [vI (rI r 55 l2.toNatClampNeg)] r (pV fun r5 => iX11_prepare_59 X w0 m A l1 l2 0 r5))) :
    iX11_prepare_39 X w0 m A l1 l2 r := by
  intro w hW
  refine e_iload_n (pc := 39) (i := 2) dX11_prepare_39 rfl rfl ?_
  refine e_aload_n (pc := 40) (i := 0) dX11_prepare_40 rfl rfl ?_
  refine n_getS (pc := 41) hS hW 58 dX11_prepare_41 fRX11_313 rfl ?_
  refine e_icmp_ge (pc := 44) (tgt := 137) dX11_prepare_44 (by decide) (fun h1 => ?_) (fun h1 => ?_)
  · replace hv := hv.1 h1
    exact e_vreturn (pc := 137) dX11_prepare_137 rfl ⟨r, hW, rfl, hv⟩
  · replace hv := hv.2 h1
    refine e_aload_n (pc := 47) (i := 0) dX11_prepare_47 rfl rfl ?_
    refine e_aload_n (pc := 48) (i := 0) dX11_prepare_48 rfl rfl ?_
    refine n_get (pc := 49) hS hW 55 dX11_prepare_49 fRX11_142 rfl ?_
    refine e_iload_n (pc := 52) (i := 2) dX11_prepare_52 rfl rfl ?_
    have hi2 : vp_in l2 301 := hv.1
    replace hv := hv.2
    refine n_iald (pc := 53) (wa := w) hS hW 55 dX11_prepare_53 (by decide) rfl hi2 rfl ?_
    refine e_callV (pc := 54) (ci := 11) (st := []) (rc' := 0) (rs' := 0) (B' := bX11_dues) [vI (rI r 55 l2.toNatClampNeg)] dX11_prepare_54 vRX11_229 kX11_dues (by decide) rfl (hW.K hS) rfl rfl (Nat.le_of_ble_eq_true rfl) ⟨Nat.le_of_ble_eq_true rfl, Nat.le_of_ble_eq_true rfl⟩ rfl rfl (hv w hW) (fun zx3 w4 hq => ?_)
    obtain ⟨r5, hw4, ex3, hv⟩ := hq
    subst ex3
    show EJ X mX11_prepare _ 0 0 _ _ [] w4
    refine e_iconst (pc := 57) (v := 0) dX11_prepare_57 (by decide) ?_
    refine e_istore_n (pc := 58) (i := 3) (lv' := [(0, vR m), (1, vI l1), (2, vI l2), (3, vI 0)]) dX11_prepare_58 rfl (by decide) rfl ?_
    exact hv w4 hw4
set_option maxRecDepth 100000 in
set_option maxHeartbeats 4000000 in
theorem rX11_prepare_2 (X : Cx) (w0 : Wd) (m : Nat) (hS : Sh w0 m) (A : Rs → Prop) (l1 : Int32) (l2 : Int32) (r : Rs)
    (hv : (((sS r 30) < l2) → iX11_prepare_39 X w0 m A l1 0 r) ∧ ((¬ (sS r 30) < l2) → vp_in l2 301 ∧ ∀ r3 : Rs, r3 = uJ r 59 l2.toNatClampNeg 0 → vp_in l2 301 ∧ ∀ r6 : Rs, r6 = uJ r3 60 l2.toNatClampNeg 0 → vp_in l2 301 ∧ ∀ r9 : Rs, r9 = uI r6 61 l2.toNatClampNeg 0 → iX11_prepare_2 X w0 m A l1 (l2 + 1) r9)) :
    iX11_prepare_2 X w0 m A l1 l2 r := by
  intro w hW
  refine e_iload_n (pc := 2) (i := 2) dX11_prepare_2 rfl rfl ?_
  refine e_aload_n (pc := 3) (i := 0) dX11_prepare_3 rfl rfl ?_
  refine n_getS (pc := 4) hS hW 30 dX11_prepare_4 fRX11_169 rfl ?_
  refine e_icmp_gt (pc := 7) (tgt := 37) dX11_prepare_7 (by decide) (fun h1 => ?_) (fun h1 => ?_)
  · replace hv := hv.1 h1
    refine e_iconst (pc := 37) (v := 0) dX11_prepare_37 (by decide) ?_
    refine e_istore_n (pc := 38) (i := 2) (lv' := [(0, vR m), (1, vI l1), (2, vI 0)]) dX11_prepare_38 rfl (by decide) rfl ?_
    exact hv w hW
  · replace hv := hv.2 h1
    refine e_aload_n (pc := 10) (i := 0) dX11_prepare_10 rfl rfl ?_
    refine n_get (pc := 11) hS hW 59 dX11_prepare_11 fRX11_148 rfl ?_
    refine e_iload_n (pc := 14) (i := 2) dX11_prepare_14 rfl rfl ?_
    refine e_lconst (pc := 15) (v := 0) dX11_prepare_15 (by decide) ?_
    have hi2 : vp_in l2 301 := hv.1
    replace hv := hv.2
    refine n_last (pc := 16) (wa := w) hS hW 59 dX11_prepare_16 (by decide) rfl hi2 rfl (fun w4 hw4 => ?_)
    obtain ⟨r3, er3⟩ : ∃ r3 : Rs, r3 = uJ r 59 l2.toNatClampNeg 0 := ⟨_, rfl⟩
    replace hv := hv r3 er3
    rw [← er3] at hw4
    refine e_aload_n (pc := 17) (i := 0) dX11_prepare_17 rfl rfl ?_
    refine n_get (pc := 18) hS hw4 60 dX11_prepare_18 fRX11_151 rfl ?_
    refine e_iload_n (pc := 21) (i := 2) dX11_prepare_21 rfl rfl ?_
    refine e_lconst (pc := 22) (v := 0) dX11_prepare_22 (by decide) ?_
    have hi5 : vp_in l2 301 := hv.1
    replace hv := hv.2
    refine n_last (pc := 23) (wa := w4) hS hw4 60 dX11_prepare_23 (by decide) rfl hi5 rfl (fun w7 hw7 => ?_)
    obtain ⟨r6, er6⟩ : ∃ r6 : Rs, r6 = uJ r3 60 l2.toNatClampNeg 0 := ⟨_, rfl⟩
    replace hv := hv r6 er6
    rw [← er6] at hw7
    refine e_aload_n (pc := 24) (i := 0) dX11_prepare_24 rfl rfl ?_
    refine n_get (pc := 25) hS hw7 61 dX11_prepare_25 fRX11_154 rfl ?_
    refine e_iload_n (pc := 28) (i := 2) dX11_prepare_28 rfl rfl ?_
    refine e_iconst (pc := 29) (v := 0) dX11_prepare_29 (by decide) ?_
    have hi8 : vp_in l2 301 := hv.1
    replace hv := hv.2
    refine n_zast (pc := 30) (wa := w7) hS hw7 61 dX11_prepare_30 (by decide) rfl hi8 rfl (Or.inl rfl) (fun w10 hw10 => ?_)
    obtain ⟨r9, er9⟩ : ∃ r9 : Rs, r9 = uI r6 61 l2.toNatClampNeg 0 := ⟨_, rfl⟩
    replace hv := hv r9 er9
    rw [← er9] at hw10
    refine e_iinc (pc := 31) (v := l2 + 1) (lv' := [(0, vR m), (1, vI l1), (2, vI (l2 + 1))]) dX11_prepare_31 rfl rfl (by decide) rfl ?_
    refine e_goto (pc := 34) (tgt := 2) dX11_prepare_34 (by decide) ?_
    exact hv w10 hw10
set_option maxRecDepth 100000 in
set_option maxHeartbeats 4000000 in
theorem pX11_prepare (X : Cx) (w0 : Wd) (m : Nat) (hS : Sh w0 m) (A : Rs → Prop) (a1 : Int32) (r : Rs)
    (hv : iX11_prepare_2 X w0 m A a1 1 r) :
    CM X w0 m bX11_prepare mX11_prepare [vI a1] r (pV A) := by
  intro w hW
  refine Ct.of (Q := qM w0 m (pV A)) (lv := [(0, vR m), (1, vI a1)]) rfl (Nat.le_of_ble_eq_true rfl) rfl ?_
  refine e_iconst (pc := 0) (v := 1) dX11_prepare_0 (by decide) ?_
  refine e_istore_n (pc := 1) (i := 2) (lv' := [(0, vR m), (1, vI a1), (2, vI 1)]) dX11_prepare_1 rfl (by decide) rfl ?_
  exact hv w hW
abbrev iX11_give_24 (X : Cx) (w0 : Wd) (m : Nat) (A : Int64 → Rs → Prop) (l1 : Int32) (l2 : Int32) (l7 : Int64) (l9 : Int32) (r : Rs) : Prop := ∀ w, Wm w0 m r w → EJ X mX11_give (vw X bX11_give (qM w0 m (pJ A))) 0 0 24 [(0, vR m), (1, vI l1), (2, vI l2), (7, vJ l7), (9, vI l9)] [] w
abbrev iX11_give_89 (X : Cx) (w0 : Wd) (m : Nat) (A : Int64 → Rs → Prop) (l1 : Int32) (l2 : Int32) (l7 : Int64) (l9 : Int32) (l10 : Int32) (s0 : Int64) (r : Rs) : Prop := ∀ w, Wm w0 m r w → EJ X mX11_give (vw X bX11_give (qM w0 m (pJ A))) 0 0 89 [(0, vR m), (1, vI l1), (2, vI l2), (7, vJ l7), (9, vI l9), (10, vI l10)] [vJ s0] w
abbrev iX11_give_124 (X : Cx) (w0 : Wd) (m : Nat) (A : Int64 → Rs → Prop) (l1 : Int32) (l2 : Int32) (l7 : Int64) (l9 : Int32) (r : Rs) : Prop := ∀ w, Wm w0 m r w → EJ X mX11_give (vw X bX11_give (qM w0 m (pJ A))) 0 0 124 [(0, vR m), (1, vI l1), (2, vI l2), (7, vJ l7), (9, vI l9)] [] w
abbrev iX11_give_261 (X : Cx) (w0 : Wd) (m : Nat) (A : Int64 → Rs → Prop) (l7 : Int64) (l9 : Int32) (r : Rs) : Prop := ∀ w, Wm w0 m r w → EJ X mX11_give (vw X bX11_give (qM w0 m (pJ A))) 0 0 261 [(0, vR m), (7, vJ l7), (9, vI l9)] [] w
abbrev iX11_give_297 (X : Cx) (w0 : Wd) (m : Nat) (A : Int64 → Rs → Prop) (l7 : Int64) (l9 : Int32) (r : Rs) : Prop := ∀ w, Wm w0 m r w → EJ X mX11_give (vw X bX11_give (qM w0 m (pJ A))) 0 0 297 [(0, vR m), (7, vJ l7), (9, vI l9)] [] w
set_option maxRecDepth 100000 in
set_option maxHeartbeats 4000000 in
theorem rX11_give_297 (X : Cx) (w0 : Wd) (m : Nat) (hS : Sh w0 m) (A : Int64 → Rs → Prop) (l7 : Int64) (l9 : Int32) (r : Rs)
    (hv : ((301 ≤ l9) → ∀ r2 : Rs, r2 = uO r l7 → A l7 r2) ∧ ((¬ 301 ≤ l9) → vp_in l9 301 ∧ ∀ r5 : Rs, r5 = uJ r 62 l9.toNatClampNeg 0 → iX11_give_297 X w0 m A l7 (l9 + 1) r5)) :
    iX11_give_297 X w0 m A l7 l9 r := by
  intro w hW
  refine e_iload (pc := 297) (i := 9) dX11_give_297 rfl ?_
  refine e_sipush (pc := 299) (v := 301) dX11_give_299 (by decide) ?_
  refine e_icmp_ge (pc := 302) (tgt := 319) dX11_give_302 (by decide) (fun h1 => ?_) (fun h1 => ?_)
  · replace hv := hv.1 h1
    refine e_aload_n (pc := 319) (i := 0) dX11_give_319 rfl rfl ?_
    refine e_lload (pc := 320) (i := 7) dX11_give_320 rfl ?_
    refine n_putO (pc := 322) hS hW dX11_give_322 fRX11_350 (fun w3 hw3 => ?_)
    obtain ⟨r2, er2⟩ : ∃ r2 : Rs, r2 = uO r l7 := ⟨_, rfl⟩
    replace hv := hv r2 er2
    rw [← er2] at hw3
    refine e_lload (pc := 325) (i := 7) dX11_give_325 rfl ?_
    exact e_lreturn (pc := 327) dX11_give_327 rfl ⟨r2, hw3, _, rfl, hv⟩
  · replace hv := hv.2 h1
    refine e_aload_n (pc := 305) (i := 0) dX11_give_305 rfl rfl ?_
    refine n_get (pc := 306) hS hW 62 dX11_give_306 fRX11_157 rfl ?_
    refine e_iload (pc := 309) (i := 9) dX11_give_309 rfl ?_
    refine e_lconst (pc := 311) (v := 0) dX11_give_311 (by decide) ?_
    have hi4 : vp_in l9 301 := hv.1
    replace hv := hv.2
    refine n_last (pc := 312) (wa := w) hS hW 62 dX11_give_312 (by decide) rfl hi4 rfl (fun w6 hw6 => ?_)
    obtain ⟨r5, er5⟩ : ∃ r5 : Rs, r5 = uJ r 62 l9.toNatClampNeg 0 := ⟨_, rfl⟩
    replace hv := hv r5 er5
    rw [← er5] at hw6
    refine e_iinc (pc := 313) (v := l9 + 1) (lv' := [(0, vR m), (7, vJ l7), (9, vI (l9 + 1))]) dX11_give_313 rfl rfl (by decide) rfl ?_
    refine e_goto (pc := 316) (tgt := 297) dX11_give_316 (by decide) ?_
    exact hv w6 hw6
set_option maxRecDepth 100000 in
set_option maxHeartbeats 4000000 in
theorem rX11_give_261 (X : Cx) (w0 : Wd) (m : Nat) (hS : Sh w0 m) (A : Int64 → Rs → Prop) (l7 : Int64) (l9 : Int32) (r : Rs)
    (hv : (((sS r 30) < l9) → iX11_give_297 X w0 m A l7 ((sS r 30) + 1) r) ∧ ((¬ (sS r 30) < l9) → CM X w0 m bX11_gotBy mX11_gotBy [vI l9] r (pJ fun x2 r4 => vp_in l9 301 ∧ ∀ r6 : Rs, r6 = uJ r4 62 l9.toNatClampNeg x2 → iX11_give_261 X w0 m A l7 (l9 + 1) r6))) :
    iX11_give_261 X w0 m A l7 l9 r := by
  intro w hW
  refine e_iload (pc := 261) (i := 9) dX11_give_261 rfl ?_
  refine e_aload_n (pc := 263) (i := 0) dX11_give_263 rfl rfl ?_
  refine n_getS (pc := 264) hS hW 30 dX11_give_264 fRX11_169 rfl ?_
  refine e_icmp_gt (pc := 267) (tgt := 289) dX11_give_267 (by decide) (fun h1 => ?_) (fun h1 => ?_)
  · replace hv := hv.1 h1
    refine e_aload_n (pc := 289) (i := 0) dX11_give_289 rfl rfl ?_
    refine n_getS (pc := 290) hS hW 30 dX11_give_290 fRX11_169 rfl ?_
    refine e_iconst (pc := 293) (v := 1) dX11_give_293 (by decide) ?_
    refine e_iadd (pc := 294) dX11_give_294 ?_
    refine e_istore (pc := 295) (i := 9) (lv' := [(0, vR m), (7, vJ l7), (9, vI ((sS r 30) + 1))]) dX11_give_295 (by decide) rfl ?_
    exact hv w hW
  · replace hv := hv.2 h1
    refine e_aload_n (pc := 270) (i := 0) dX11_give_270 rfl rfl ?_
    refine n_get (pc := 271) hS hW 62 dX11_give_271 fRX11_157 rfl ?_
    refine e_iload (pc := 274) (i := 9) dX11_give_274 rfl ?_
    refine e_aload_n (pc := 276) (i := 0) dX11_give_276 rfl rfl ?_
    refine e_iload (pc := 277) (i := 9) dX11_give_277 rfl ?_
    refine e_callV (pc := 279) (ci := 11) (st := [vI l9, vR (wR w 11 62 m)]) (rc' := 0) (rs' := 0) (B' := bX11_gotBy) [vI l9] dX11_give_279 vRX11_340 kX11_gotBy (by decide) rfl (hW.K hS) rfl rfl (Nat.le_of_ble_eq_true rfl) ⟨Nat.le_of_ble_eq_true rfl, Nat.le_of_ble_eq_true rfl⟩ rfl rfl (hv w hW) (fun zx2 w3 hq => ?_)
    obtain ⟨r4, hw3, x2, ex2, hv⟩ := hq
    subst ex2
    show EJ X mX11_give _ 0 0 _ _ (vJ x2 :: [vI l9, vR (wR w 11 62 m)]) w3
    have hi5 : vp_in l9 301 := hv.1
    replace hv := hv.2
    refine n_last (pc := 282) (wa := w) hS hw3 62 dX11_give_282 (by decide) rfl hi5 (Wm.same hW hw3) (fun w7 hw7 => ?_)
    obtain ⟨r6, er6⟩ : ∃ r6 : Rs, r6 = uJ r4 62 l9.toNatClampNeg x2 := ⟨_, rfl⟩
    replace hv := hv r6 er6
    rw [← er6] at hw7
    refine e_iinc (pc := 283) (v := l9 + 1) (lv' := [(0, vR m), (7, vJ l7), (9, vI (l9 + 1))]) dX11_give_283 rfl rfl (by decide) rfl ?_
    refine e_goto (pc := 286) (tgt := 261) dX11_give_286 (by decide) ?_
    exact hv w7 hw7
set_option maxRecDepth 100000 in
set_option maxHeartbeats 4000000 in
theorem rX11_give_124 (X : Cx) (w0 : Wd) (m : Nat) (hS : Sh w0 m) (A : Int64 → Rs → Prop) (l1 : Int32) (l2 : Int32) (l7 : Int64) (l9 : Int32) (r : Rs)
    (hv : (((sS r 38) < l9) → iX11_give_261 X w0 m A l7 1 r) ∧ ((¬ (sS r 38) < l9) → vp_in l9 101 ∧ vp_in (rI r 31 l9.toNatClampNeg) 301 ∧ ((¬ (rI r 4 (rI r 31 l9.toNatClampNeg).toNatClampNeg) = l1) → iX11_give_124 X w0 m A l1 l2 l7 (l9 + 1) r) ∧ (((rI r 4 (rI r 31 l9.toNatClampNeg).toNatClampNeg) = l1) → CM X w0 m bX11_isPosted mX11_isPosted [vI l9, vI l2] r (pI fun x5 r7 => ((¬ x5 = 0) → vp_in l9 101 ∧ vp_in l9 101 ∧ CM X w0 m bX11_gotBy mX11_gotBy [vI (rI r7 31 l9.toNatClampNeg)] r7 (pJ fun x11 r13 => vp_in l9 101 ∧ CM X w0 m bX11_dueIn mX11_dueIn [vI (rI r7 32 l9.toNatClampNeg)] r13 (pJ fun x15 r17 => CM X w0 m bX11_gotBy mX11_gotBy [vI (rI r7 32 l9.toNatClampNeg)] r17 (pJ fun x18 r20 => CM X w0 m bX11_gives mX11_gives [vI (rI r7 31 l9.toNatClampNeg), vJ (if (if x15 < (rJ r13 33 l9.toNatClampNeg) then x15 else (rJ r13 33 l9.toNatClampNeg)) < x11 then (if x15 < (rJ r13 33 l9.toNatClampNeg) then x15 else (rJ r13 33 l9.toNatClampNeg)) else x11)] r20 (pV fun r23 => CM X w0 m bX11_gives mX11_gives [vI (rI r7 32 l9.toNatClampNeg), vJ (if x18 < (if (if x15 < (rJ r13 33 l9.toNatClampNeg) then x15 else (rJ r13 33 l9.toNatClampNeg)) < x11 then (if x15 < (rJ r13 33 l9.toNatClampNeg) then x15 else (rJ r13 33 l9.toNatClampNeg)) else x11) then x18 else (if (if x15 < (rJ r13 33 l9.toNatClampNeg) then x15 else (rJ r13 33 l9.toNatClampNeg)) < x11 then (if x15 < (rJ r13 33 l9.toNatClampNeg) then x15 else (rJ r13 33 l9.toNatClampNeg)) else x11))] r23 (pV fun r26 => CM X w0 m bX11_gets mX11_gets [vI (rI r7 32 l9.toNatClampNeg), vJ (if (if x15 < (rJ r13 33 l9.toNatClampNeg) then x15 else (rJ r13 33 l9.toNatClampNeg)) < x11 then (if x15 < (rJ r13 33 l9.toNatClampNeg) then x15 else (rJ r13 33 l9.toNatClampNeg)) else x11)] r26 (pV fun r29 => CM X w0 m bX11_gets mX11_gets [vI (rI r7 31 l9.toNatClampNeg), vJ (if x18 < (if (if x15 < (rJ r13 33 l9.toNatClampNeg) then x15 else (rJ r13 33 l9.toNatClampNeg)) < x11 then (if x15 < (rJ r13 33 l9.toNatClampNeg) then x15 else (rJ r13 33 l9.toNatClampNeg)) else x11) then x18 else (if (if x15 < (rJ r13 33 l9.toNatClampNeg) then x15 else (rJ r13 33 l9.toNatClampNeg)) < x11 then (if x15 < (rJ r13 33 l9.toNatClampNeg) then x15 else (rJ r13 33 l9.toNatClampNeg)) else x11))] r29 (pV fun r32 => iX11_give_124 X w0 m A l1 l2 l7 (l9 + 1) r32)))))))) ∧ ((x5 = 0) → iX11_give_124 X w0 m A l1 l2 l7 (l9 + 1) r7))))) :
    iX11_give_124 X w0 m A l1 l2 l7 l9 r := by
  intro w hW
  refine e_iload (pc := 124) (i := 9) dX11_give_124 rfl ?_
  refine e_aload_n (pc := 126) (i := 0) dX11_give_126 rfl rfl ?_
  refine n_getS (pc := 127) hS hW 38 dX11_give_127 fRX11_275 rfl ?_
  refine e_icmp_gt (pc := 130) (tgt := 258) dX11_give_130 (by decide) (fun h1 => ?_) (fun h1 => ?_)
  · replace hv := hv.1 h1
    refine e_iconst (pc := 258) (v := 1) dX11_give_258 (by decide) ?_
    refine e_istore (pc := 259) (i := 9) (lv' := [(0, vR m), (1, vI l1), (2, vI l2), (7, vJ l7), (9, vI 1)]) dX11_give_259 (by decide) rfl ?_
    exact EJ.drop [0, 7, 9] rfl (hv w hW)
  · replace hv := hv.2 h1
    refine e_aload_n (pc := 133) (i := 0) dX11_give_133 rfl rfl ?_
    refine n_get (pc := 134) hS hW 4 dX11_give_134 fRX11_20 rfl ?_
    refine e_aload_n (pc := 137) (i := 0) dX11_give_137 rfl rfl ?_
    refine n_get (pc := 138) hS hW 31 dX11_give_138 fRX11_99 rfl ?_
    refine e_iload (pc := 141) (i := 9) dX11_give_141 rfl ?_
    have hi2 : vp_in l9 101 := hv.1
    replace hv := hv.2
    refine n_iald (pc := 143) (wa := w) hS hW 31 dX11_give_143 (by decide) rfl hi2 rfl ?_
    have hi3 : vp_in (rI r 31 l9.toNatClampNeg) 301 := hv.1
    replace hv := hv.2
    refine n_iald (pc := 144) (wa := w) hS hW 4 dX11_give_144 (by decide) rfl hi3 rfl ?_
    refine e_iload_n (pc := 145) (i := 1) dX11_give_145 rfl rfl ?_
    refine e_icmp_ne (pc := 146) (tgt := 252) dX11_give_146 (by decide) (fun h4 => ?_) (fun h4 => ?_)
    · replace hv := hv.1 h4
      refine e_iinc (pc := 252) (v := l9 + 1) (lv' := [(0, vR m), (1, vI l1), (2, vI l2), (7, vJ l7), (9, vI (l9 + 1))]) dX11_give_252 rfl rfl (by decide) rfl ?_
      refine e_goto (pc := 255) (tgt := 124) dX11_give_255 (by decide) ?_
      exact hv w hW
    · replace hv := hv.2 h4
      refine e_aload_n (pc := 149) (i := 0) dX11_give_149 rfl rfl ?_
      refine e_iload (pc := 150) (i := 9) dX11_give_150 rfl ?_
      refine e_iload_n (pc := 152) (i := 2) dX11_give_152 rfl rfl ?_
      refine e_callV (pc := 153) (ci := 11) (st := []) (rc' := 0) (rs' := 0) (B' := bX11_isPosted) [vI l9, vI l2] dX11_give_153 vRX11_322 kX11_isPosted (by decide) rfl (hW.K hS) rfl rfl (Nat.le_of_ble_eq_true rfl) ⟨Nat.le_of_ble_eq_true rfl, Nat.le_of_ble_eq_true rfl⟩ rfl rfl (hv w hW) (fun zx5 w6 hq => ?_)
      obtain ⟨r7, hw6, x5, ex5, hv⟩ := hq
      subst ex5
      show EJ X mX11_give _ 0 0 _ _ (vI x5 :: []) w6
      refine e_if_ne (pc := 156) (tgt := 162) dX11_give_156 (by decide) (fun h8 => ?_) (fun h8 => ?_)
      · replace hv := hv.1 h8
        refine e_aload_n (pc := 162) (i := 0) dX11_give_162 rfl rfl ?_
        refine n_get (pc := 163) hS hw6 31 dX11_give_163 fRX11_99 rfl ?_
        refine e_iload (pc := 166) (i := 9) dX11_give_166 rfl ?_
        have hi9 : vp_in l9 101 := hv.1
        replace hv := hv.2
        refine n_iald (pc := 168) (wa := w6) hS hw6 31 dX11_give_168 (by decide) rfl hi9 rfl ?_
        refine e_istore (pc := 169) (i := 10) (lv' := [(0, vR m), (1, vI l1), (2, vI l2), (7, vJ l7), (9, vI l9), (10, vI (rI r7 31 l9.toNatClampNeg))]) dX11_give_169 (by decide) rfl ?_
        refine e_aload_n (pc := 171) (i := 0) dX11_give_171 rfl rfl ?_
        refine n_get (pc := 172) hS hw6 32 dX11_give_172 fRX11_102 rfl ?_
        refine e_iload (pc := 175) (i := 9) dX11_give_175 rfl ?_
        have hi10 : vp_in l9 101 := hv.1
        replace hv := hv.2
        refine n_iald (pc := 177) (wa := w6) hS hw6 32 dX11_give_177 (by decide) rfl hi10 rfl ?_
        refine e_istore (pc := 178) (i := 11) (lv' := [(0, vR m), (1, vI l1), (2, vI l2), (7, vJ l7), (9, vI l9), (10, vI (rI r7 31 l9.toNatClampNeg)), (11, vI (rI r7 32 l9.toNatClampNeg))]) dX11_give_178 (by decide) rfl ?_
        refine e_aload_n (pc := 180) (i := 0) dX11_give_180 rfl rfl ?_
        refine e_iload (pc := 181) (i := 10) dX11_give_181 rfl ?_
        refine e_callV (pc := 183) (ci := 11) (st := []) (rc' := 0) (rs' := 0) (B' := bX11_gotBy) [vI (rI r7 31 l9.toNatClampNeg)] dX11_give_183 vRX11_340 kX11_gotBy (by decide) rfl (hw6.K hS) rfl rfl (Nat.le_of_ble_eq_true rfl) ⟨Nat.le_of_ble_eq_true rfl, Nat.le_of_ble_eq_true rfl⟩ rfl rfl (hv w6 hw6) (fun zx11 w12 hq => ?_)
        obtain ⟨r13, hw12, x11, ex11, hv⟩ := hq
        subst ex11
        show EJ X mX11_give _ 0 0 _ _ (vJ x11 :: []) w12
        refine e_aload_n (pc := 186) (i := 0) dX11_give_186 rfl rfl ?_
        refine n_get (pc := 187) hS hw12 33 dX11_give_187 fRX11_105 rfl ?_
        refine e_iload (pc := 190) (i := 9) dX11_give_190 rfl ?_
        have hi14 : vp_in l9 101 := hv.1
        replace hv := hv.2
        refine n_lald (pc := 192) (wa := w12) hS hw12 33 dX11_give_192 (by decide) rfl hi14 rfl ?_
        refine e_aload_n (pc := 193) (i := 0) dX11_give_193 rfl rfl ?_
        refine e_iload (pc := 194) (i := 11) dX11_give_194 rfl ?_
        refine e_callV (pc := 196) (ci := 11) (st := [vJ (rJ r13 33 l9.toNatClampNeg), vJ x11]) (rc' := 0) (rs' := 0) (B' := bX11_dueIn) [vI (rI r7 32 l9.toNatClampNeg)] dX11_give_196 vRX11_337 kX11_dueIn (by decide) rfl (hw12.K hS) rfl rfl (Nat.le_of_ble_eq_true rfl) ⟨Nat.le_of_ble_eq_true rfl, Nat.le_of_ble_eq_true rfl⟩ rfl rfl (hv w12 hw12) (fun zx15 w16 hq => ?_)
        obtain ⟨r17, hw16, x15, ex15, hv⟩ := hq
        subst ex15
        show EJ X mX11_give _ 0 0 _ _ (vJ x15 :: [vJ (rJ r13 33 l9.toNatClampNeg), vJ x11]) w16
        refine e_mminJ (pc := 199) dX11_give_199 (tb_a5 138 (by decide +kernel) rfl) (Nat.le_of_ble_eq_true rfl) (Nat.le_of_ble_eq_true rfl) ?_
        refine e_mminJ (pc := 202) dX11_give_202 (tb_a5 138 (by decide +kernel) rfl) (Nat.le_of_ble_eq_true rfl) (Nat.le_of_ble_eq_true rfl) ?_
        refine e_lstore (pc := 205) (i := 12) (lv' := [(0, vR m), (1, vI l1), (2, vI l2), (7, vJ l7), (9, vI l9), (10, vI (rI r7 31 l9.toNatClampNeg)), (11, vI (rI r7 32 l9.toNatClampNeg)), (12, vJ (if (if x15 < (rJ r13 33 l9.toNatClampNeg) then x15 else (rJ r13 33 l9.toNatClampNeg)) < x11 then (if x15 < (rJ r13 33 l9.toNatClampNeg) then x15 else (rJ r13 33 l9.toNatClampNeg)) else x11))]) dX11_give_205 (by decide) rfl ?_
        refine e_lload (pc := 207) (i := 12) dX11_give_207 rfl ?_
        refine e_aload_n (pc := 209) (i := 0) dX11_give_209 rfl rfl ?_
        refine e_iload (pc := 210) (i := 11) dX11_give_210 rfl ?_
        refine e_callV (pc := 212) (ci := 11) (st := [vJ (if (if x15 < (rJ r13 33 l9.toNatClampNeg) then x15 else (rJ r13 33 l9.toNatClampNeg)) < x11 then (if x15 < (rJ r13 33 l9.toNatClampNeg) then x15 else (rJ r13 33 l9.toNatClampNeg)) else x11)]) (rc' := 0) (rs' := 0) (B' := bX11_gotBy) [vI (rI r7 32 l9.toNatClampNeg)] dX11_give_212 vRX11_340 kX11_gotBy (by decide) rfl (hw16.K hS) rfl rfl (Nat.le_of_ble_eq_true rfl) ⟨Nat.le_of_ble_eq_true rfl, Nat.le_of_ble_eq_true rfl⟩ rfl rfl (hv w16 hw16) (fun zx18 w19 hq => ?_)
        obtain ⟨r20, hw19, x18, ex18, hv⟩ := hq
        subst ex18
        show EJ X mX11_give _ 0 0 _ _ (vJ x18 :: [vJ (if (if x15 < (rJ r13 33 l9.toNatClampNeg) then x15 else (rJ r13 33 l9.toNatClampNeg)) < x11 then (if x15 < (rJ r13 33 l9.toNatClampNeg) then x15 else (rJ r13 33 l9.toNatClampNeg)) else x11)]) w19
        refine e_mminJ (pc := 215) dX11_give_215 (tb_a5 138 (by decide +kernel) rfl) (Nat.le_of_ble_eq_true rfl) (Nat.le_of_ble_eq_true rfl) ?_
        refine e_lstore (pc := 218) (i := 14) (lv' := [(0, vR m), (1, vI l1), (2, vI l2), (7, vJ l7), (9, vI l9), (10, vI (rI r7 31 l9.toNatClampNeg)), (11, vI (rI r7 32 l9.toNatClampNeg)), (12, vJ (if (if x15 < (rJ r13 33 l9.toNatClampNeg) then x15 else (rJ r13 33 l9.toNatClampNeg)) < x11 then (if x15 < (rJ r13 33 l9.toNatClampNeg) then x15 else (rJ r13 33 l9.toNatClampNeg)) else x11)), (14, vJ (if x18 < (if (if x15 < (rJ r13 33 l9.toNatClampNeg) then x15 else (rJ r13 33 l9.toNatClampNeg)) < x11 then (if x15 < (rJ r13 33 l9.toNatClampNeg) then x15 else (rJ r13 33 l9.toNatClampNeg)) else x11) then x18 else (if (if x15 < (rJ r13 33 l9.toNatClampNeg) then x15 else (rJ r13 33 l9.toNatClampNeg)) < x11 then (if x15 < (rJ r13 33 l9.toNatClampNeg) then x15 else (rJ r13 33 l9.toNatClampNeg)) else x11)))]) dX11_give_218 (by decide) rfl ?_
        refine e_aload_n (pc := 220) (i := 0) dX11_give_220 rfl rfl ?_
        refine e_iload (pc := 221) (i := 10) dX11_give_221 rfl ?_
        refine e_lload (pc := 223) (i := 12) dX11_give_223 rfl ?_
        refine e_callV (pc := 225) (ci := 11) (st := []) (rc' := 0) (rs' := 0) (B' := bX11_gives) [vI (rI r7 31 l9.toNatClampNeg), vJ (if (if x15 < (rJ r13 33 l9.toNatClampNeg) then x15 else (rJ r13 33 l9.toNatClampNeg)) < x11 then (if x15 < (rJ r13 33 l9.toNatClampNeg) then x15 else (rJ r13 33 l9.toNatClampNeg)) else x11)] dX11_give_225 vRX11_347 kX11_gives (by decide) rfl (hw19.K hS) rfl rfl (Nat.le_of_ble_eq_true rfl) ⟨Nat.le_of_ble_eq_true rfl, Nat.le_of_ble_eq_true rfl⟩ rfl rfl (hv w19 hw19) (fun zx21 w22 hq => ?_)
        obtain ⟨r23, hw22, ex21, hv⟩ := hq
        subst ex21
        show EJ X mX11_give _ 0 0 _ _ [] w22
        refine e_aload_n (pc := 228) (i := 0) dX11_give_228 rfl rfl ?_
        refine e_iload (pc := 229) (i := 11) dX11_give_229 rfl ?_
        refine e_lload (pc := 231) (i := 14) dX11_give_231 rfl ?_
        refine e_callV (pc := 233) (ci := 11) (st := []) (rc' := 0) (rs' := 0) (B' := bX11_gives) [vI (rI r7 32 l9.toNatClampNeg), vJ (if x18 < (if (if x15 < (rJ r13 33 l9.toNatClampNeg) then x15 else (rJ r13 33 l9.toNatClampNeg)) < x11 then (if x15 < (rJ r13 33 l9.toNatClampNeg) then x15 else (rJ r13 33 l9.toNatClampNeg)) else x11) then x18 else (if (if x15 < (rJ r13 33 l9.toNatClampNeg) then x15 else (rJ r13 33 l9.toNatClampNeg)) < x11 then (if x15 < (rJ r13 33 l9.toNatClampNeg) then x15 else (rJ r13 33 l9.toNatClampNeg)) else x11))] dX11_give_233 vRX11_347 kX11_gives (by decide) rfl (hw22.K hS) rfl rfl (Nat.le_of_ble_eq_true rfl) ⟨Nat.le_of_ble_eq_true rfl, Nat.le_of_ble_eq_true rfl⟩ rfl rfl (hv w22 hw22) (fun zx24 w25 hq => ?_)
        obtain ⟨r26, hw25, ex24, hv⟩ := hq
        subst ex24
        show EJ X mX11_give _ 0 0 _ _ [] w25
        refine e_aload_n (pc := 236) (i := 0) dX11_give_236 rfl rfl ?_
        refine e_iload (pc := 237) (i := 11) dX11_give_237 rfl ?_
        refine e_lload (pc := 239) (i := 12) dX11_give_239 rfl ?_
        refine e_callV (pc := 241) (ci := 11) (st := []) (rc' := 0) (rs' := 0) (B' := bX11_gets) [vI (rI r7 32 l9.toNatClampNeg), vJ (if (if x15 < (rJ r13 33 l9.toNatClampNeg) then x15 else (rJ r13 33 l9.toNatClampNeg)) < x11 then (if x15 < (rJ r13 33 l9.toNatClampNeg) then x15 else (rJ r13 33 l9.toNatClampNeg)) else x11)] dX11_give_241 vRX11_343 kX11_gets (by decide) rfl (hw25.K hS) rfl rfl (Nat.le_of_ble_eq_true rfl) ⟨Nat.le_of_ble_eq_true rfl, Nat.le_of_ble_eq_true rfl⟩ rfl rfl (hv w25 hw25) (fun zx27 w28 hq => ?_)
        obtain ⟨r29, hw28, ex27, hv⟩ := hq
        subst ex27
        show EJ X mX11_give _ 0 0 _ _ [] w28
        refine e_aload_n (pc := 244) (i := 0) dX11_give_244 rfl rfl ?_
        refine e_iload (pc := 245) (i := 10) dX11_give_245 rfl ?_
        refine e_lload (pc := 247) (i := 14) dX11_give_247 rfl ?_
        refine e_callV (pc := 249) (ci := 11) (st := []) (rc' := 0) (rs' := 0) (B' := bX11_gets) [vI (rI r7 31 l9.toNatClampNeg), vJ (if x18 < (if (if x15 < (rJ r13 33 l9.toNatClampNeg) then x15 else (rJ r13 33 l9.toNatClampNeg)) < x11 then (if x15 < (rJ r13 33 l9.toNatClampNeg) then x15 else (rJ r13 33 l9.toNatClampNeg)) else x11) then x18 else (if (if x15 < (rJ r13 33 l9.toNatClampNeg) then x15 else (rJ r13 33 l9.toNatClampNeg)) < x11 then (if x15 < (rJ r13 33 l9.toNatClampNeg) then x15 else (rJ r13 33 l9.toNatClampNeg)) else x11))] dX11_give_249 vRX11_343 kX11_gets (by decide) rfl (hw28.K hS) rfl rfl (Nat.le_of_ble_eq_true rfl) ⟨Nat.le_of_ble_eq_true rfl, Nat.le_of_ble_eq_true rfl⟩ rfl rfl (hv w28 hw28) (fun zx30 w31 hq => ?_)
        obtain ⟨r32, hw31, ex30, hv⟩ := hq
        subst ex30
        show EJ X mX11_give _ 0 0 _ _ [] w31
        refine e_iinc (pc := 252) (v := l9 + 1) (lv' := [(0, vR m), (1, vI l1), (2, vI l2), (7, vJ l7), (9, vI (l9 + 1)), (10, vI (rI r7 31 l9.toNatClampNeg)), (11, vI (rI r7 32 l9.toNatClampNeg)), (12, vJ (if (if x15 < (rJ r13 33 l9.toNatClampNeg) then x15 else (rJ r13 33 l9.toNatClampNeg)) < x11 then (if x15 < (rJ r13 33 l9.toNatClampNeg) then x15 else (rJ r13 33 l9.toNatClampNeg)) else x11)), (14, vJ (if x18 < (if (if x15 < (rJ r13 33 l9.toNatClampNeg) then x15 else (rJ r13 33 l9.toNatClampNeg)) < x11 then (if x15 < (rJ r13 33 l9.toNatClampNeg) then x15 else (rJ r13 33 l9.toNatClampNeg)) else x11) then x18 else (if (if x15 < (rJ r13 33 l9.toNatClampNeg) then x15 else (rJ r13 33 l9.toNatClampNeg)) < x11 then (if x15 < (rJ r13 33 l9.toNatClampNeg) then x15 else (rJ r13 33 l9.toNatClampNeg)) else x11)))]) dX11_give_252 rfl rfl (by decide) rfl ?_
        refine e_goto (pc := 255) (tgt := 124) dX11_give_255 (by decide) ?_
        exact EJ.drop [0, 1, 2, 7, 9] rfl (hv w31 hw31)
      · replace hv := hv.2 h8
        refine e_goto (pc := 159) (tgt := 252) dX11_give_159 (by decide) ?_
        refine e_iinc (pc := 252) (v := l9 + 1) (lv' := [(0, vR m), (1, vI l1), (2, vI l2), (7, vJ l7), (9, vI (l9 + 1))]) dX11_give_252 rfl rfl (by decide) rfl ?_
        refine e_goto (pc := 255) (tgt := 124) dX11_give_255 (by decide) ?_
        exact hv w6 hw6
set_option maxRecDepth 100000 in
set_option maxHeartbeats 4000000 in
theorem rX11_give_89 (X : Cx) (w0 : Wd) (m : Nat) (hS : Sh w0 m) (A : Int64 → Rs → Prop) (l1 : Int32) (l2 : Int32) (l7 : Int64) (l9 : Int32) (l10 : Int32) (s0 : Int64) (r : Rs)
    (hv : CM X w0 m bX11_gets mX11_gets [vI l10, vJ (if s0 < l7 then s0 else l7)] r (pV fun r3 => iX11_give_24 X w0 m A l1 l2 (l7 - (if s0 < l7 then s0 else l7)) (l9 + 1) r3)) :
    iX11_give_89 X w0 m A l1 l2 l7 l9 l10 s0 r := by
  intro w hW
  refine e_lstore (pc := 89) (i := 13) (lv' := [(0, vR m), (1, vI l1), (2, vI l2), (7, vJ l7), (9, vI l9), (10, vI l10), (13, vJ s0)]) dX11_give_89 (by decide) rfl ?_
  refine e_lload (pc := 91) (i := 7) dX11_give_91 rfl ?_
  refine e_lload (pc := 93) (i := 13) dX11_give_93 rfl ?_
  refine e_mminJ (pc := 95) dX11_give_95 (tb_a5 138 (by decide +kernel) rfl) (Nat.le_of_ble_eq_true rfl) (Nat.le_of_ble_eq_true rfl) ?_
  refine e_lstore (pc := 98) (i := 15) (lv' := [(0, vR m), (1, vI l1), (2, vI l2), (7, vJ l7), (9, vI l9), (10, vI l10), (13, vJ s0), (15, vJ (if s0 < l7 then s0 else l7))]) dX11_give_98 (by decide) rfl ?_
  refine e_aload_n (pc := 100) (i := 0) dX11_give_100 rfl rfl ?_
  refine e_iload (pc := 101) (i := 10) dX11_give_101 rfl ?_
  refine e_lload (pc := 103) (i := 15) dX11_give_103 rfl ?_
  refine e_callV (pc := 105) (ci := 11) (st := []) (rc' := 0) (rs' := 0) (B' := bX11_gets) [vI l10, vJ (if s0 < l7 then s0 else l7)] dX11_give_105 vRX11_343 kX11_gets (by decide) rfl (hW.K hS) rfl rfl (Nat.le_of_ble_eq_true rfl) ⟨Nat.le_of_ble_eq_true rfl, Nat.le_of_ble_eq_true rfl⟩ rfl rfl (hv w hW) (fun zx1 w2 hq => ?_)
  obtain ⟨r3, hw2, ex1, hv⟩ := hq
  subst ex1
  show EJ X mX11_give _ 0 0 _ _ [] w2
  refine e_lload (pc := 108) (i := 7) dX11_give_108 rfl ?_
  refine e_lload (pc := 110) (i := 15) dX11_give_110 rfl ?_
  refine e_lsub (pc := 112) dX11_give_112 ?_
  refine e_lstore (pc := 113) (i := 7) (lv' := [(0, vR m), (1, vI l1), (2, vI l2), (7, vJ (l7 - (if s0 < l7 then s0 else l7))), (9, vI l9), (10, vI l10), (13, vJ s0), (15, vJ (if s0 < l7 then s0 else l7))]) dX11_give_113 (by decide) rfl ?_
  refine e_iinc (pc := 115) (v := l9 + 1) (lv' := [(0, vR m), (1, vI l1), (2, vI l2), (7, vJ (l7 - (if s0 < l7 then s0 else l7))), (9, vI (l9 + 1)), (10, vI l10), (13, vJ s0), (15, vJ (if s0 < l7 then s0 else l7))]) dX11_give_115 rfl rfl (by decide) rfl ?_
  refine e_goto (pc := 118) (tgt := 24) dX11_give_118 (by decide) ?_
  exact EJ.drop [0, 1, 2, 7, 9] rfl (hv w2 hw2)
set_option maxRecDepth 100000 in
set_option maxHeartbeats 4000000 in
theorem rX11_give_24 (X : Cx) (w0 : Wd) (m : Nat) (hS : Sh w0 m) (A : Int64 → Rs → Prop) (l1 : Int32) (l2 : Int32) (l7 : Int64) (l9 : Int32) (r : Rs)
    (hv : (((sS r 57) ≤ l9) → iX11_give_124 X w0 m A l1 l2 l7 1 r) ∧ ((¬ (sS r 57) ≤ l9) → vp_in l9 602 ∧ CM X w0 m bX11_dueIn mX11_dueIn [vI (rI r 53 l9.toNatClampNeg)] r (pJ fun x3 r5 => CM X w0 m bX11_gotBy mX11_gotBy [vI (rI r 53 l9.toNatClampNeg)] r5 (pJ fun x6 r8 => vp_in l9 602 ∧ (((rI r8 54 l9.toNatClampNeg) = 0) → iX11_give_89 X w0 m A l1 l2 l7 l9 (rI r 53 l9.toNatClampNeg) (x3 - x6) r8) ∧ ((¬ (rI r8 54 l9.toNatClampNeg) = 0) → vp_in (rI r 53 l9.toNatClampNeg) 301 ∧ vp_in (rI r8 25 (rI r 53 l9.toNatClampNeg).toNatClampNeg) 301 ∧ iX11_give_89 X w0 m A l1 l2 l7 l9 (rI r 53 l9.toNatClampNeg) (if (rJ r8 8 (rI r8 25 (rI r 53 l9.toNatClampNeg).toNatClampNeg).toNatClampNeg) < (x3 - x6) then (rJ r8 8 (rI r8 25 (rI r 53 l9.toNatClampNeg).toNatClampNeg).toNatClampNeg) else (x3 - x6)) r8))))) :
    iX11_give_24 X w0 m A l1 l2 l7 l9 r := by
  intro w hW
  refine e_iload (pc := 24) (i := 9) dX11_give_24 rfl ?_
  refine e_aload_n (pc := 26) (i := 0) dX11_give_26 rfl rfl ?_
  refine n_getS (pc := 27) hS hW 57 dX11_give_27 fRX11_302 rfl ?_
  refine e_icmp_ge (pc := 30) (tgt := 121) dX11_give_30 (by decide) (fun h1 => ?_) (fun h1 => ?_)
  · replace hv := hv.1 h1
    refine e_iconst (pc := 121) (v := 1) dX11_give_121 (by decide) ?_
    refine e_istore (pc := 122) (i := 9) (lv' := [(0, vR m), (1, vI l1), (2, vI l2), (7, vJ l7), (9, vI 1)]) dX11_give_122 (by decide) rfl ?_
    exact hv w hW
  · replace hv := hv.2 h1
    refine e_aload_n (pc := 33) (i := 0) dX11_give_33 rfl rfl ?_
    refine n_get (pc := 34) hS hW 53 dX11_give_34 fRX11_136 rfl ?_
    refine e_iload (pc := 37) (i := 9) dX11_give_37 rfl ?_
    have hi2 : vp_in l9 602 := hv.1
    replace hv := hv.2
    refine n_iald (pc := 39) (wa := w) hS hW 53 dX11_give_39 (by decide) rfl hi2 rfl ?_
    refine e_istore (pc := 40) (i := 10) (lv' := [(0, vR m), (1, vI l1), (2, vI l2), (7, vJ l7), (9, vI l9), (10, vI (rI r 53 l9.toNatClampNeg))]) dX11_give_40 (by decide) rfl ?_
    refine e_aload_n (pc := 42) (i := 0) dX11_give_42 rfl rfl ?_
    refine e_iload (pc := 43) (i := 10) dX11_give_43 rfl ?_
    refine e_callV (pc := 45) (ci := 11) (st := []) (rc' := 0) (rs' := 0) (B' := bX11_dueIn) [vI (rI r 53 l9.toNatClampNeg)] dX11_give_45 vRX11_337 kX11_dueIn (by decide) rfl (hW.K hS) rfl rfl (Nat.le_of_ble_eq_true rfl) ⟨Nat.le_of_ble_eq_true rfl, Nat.le_of_ble_eq_true rfl⟩ rfl rfl (hv w hW) (fun zx3 w4 hq => ?_)
    obtain ⟨r5, hw4, x3, ex3, hv⟩ := hq
    subst ex3
    show EJ X mX11_give _ 0 0 _ _ (vJ x3 :: []) w4
    refine e_aload_n (pc := 48) (i := 0) dX11_give_48 rfl rfl ?_
    refine e_iload (pc := 49) (i := 10) dX11_give_49 rfl ?_
    refine e_callV (pc := 51) (ci := 11) (st := [vJ x3]) (rc' := 0) (rs' := 0) (B' := bX11_gotBy) [vI (rI r 53 l9.toNatClampNeg)] dX11_give_51 vRX11_340 kX11_gotBy (by decide) rfl (hw4.K hS) rfl rfl (Nat.le_of_ble_eq_true rfl) ⟨Nat.le_of_ble_eq_true rfl, Nat.le_of_ble_eq_true rfl⟩ rfl rfl (hv w4 hw4) (fun zx6 w7 hq => ?_)
    obtain ⟨r8, hw7, x6, ex6, hv⟩ := hq
    subst ex6
    show EJ X mX11_give _ 0 0 _ _ (vJ x6 :: [vJ x3]) w7
    refine e_lsub (pc := 54) dX11_give_54 ?_
    refine e_lstore (pc := 55) (i := 11) (lv' := [(0, vR m), (1, vI l1), (2, vI l2), (7, vJ l7), (9, vI l9), (10, vI (rI r 53 l9.toNatClampNeg)), (11, vJ (x3 - x6))]) dX11_give_55 (by decide) rfl ?_
    refine e_aload_n (pc := 57) (i := 0) dX11_give_57 rfl rfl ?_
    refine n_get (pc := 58) hS hw7 54 dX11_give_58 fRX11_139 rfl ?_
    refine e_iload (pc := 61) (i := 9) dX11_give_61 rfl ?_
    have hi9 : vp_in l9 602 := hv.1
    replace hv := hv.2
    refine n_zald (pc := 63) (wa := w7) hS hw7 54 dX11_give_63 (by decide) rfl hi9 rfl ?_
    refine e_if_eq (pc := 64) (tgt := 87) dX11_give_64 (by decide) (fun h10 => ?_) (fun h10 => ?_)
    · replace hv := hv.1 h10
      refine e_lload (pc := 87) (i := 11) dX11_give_87 rfl ?_
      exact EJ.drop [0, 1, 2, 7, 9, 10] rfl (hv w7 hw7)
    · replace hv := hv.2 h10
      refine e_lload (pc := 67) (i := 11) dX11_give_67 rfl ?_
      refine e_aload_n (pc := 69) (i := 0) dX11_give_69 rfl rfl ?_
      refine n_get (pc := 70) hS hw7 8 dX11_give_70 fRX11_32 rfl ?_
      refine e_aload_n (pc := 73) (i := 0) dX11_give_73 rfl rfl ?_
      refine n_get (pc := 74) hS hw7 25 dX11_give_74 fRX11_84 rfl ?_
      refine e_iload (pc := 77) (i := 10) dX11_give_77 rfl ?_
      have hi11 : vp_in (rI r 53 l9.toNatClampNeg) 301 := hv.1
      replace hv := hv.2
      refine n_iald (pc := 79) (wa := w7) hS hw7 25 dX11_give_79 (by decide) rfl hi11 rfl ?_
      have hi12 : vp_in (rI r8 25 (rI r 53 l9.toNatClampNeg).toNatClampNeg) 301 := hv.1
      replace hv := hv.2
      refine n_lald (pc := 80) (wa := w7) hS hw7 8 dX11_give_80 (by decide) rfl hi12 rfl ?_
      refine e_mminJ (pc := 81) dX11_give_81 (tb_a5 138 (by decide +kernel) rfl) (Nat.le_of_ble_eq_true rfl) (Nat.le_of_ble_eq_true rfl) ?_
      refine e_goto (pc := 84) (tgt := 89) dX11_give_84 (by decide) ?_
      exact EJ.drop [0, 1, 2, 7, 9, 10] rfl (hv w7 hw7)
set_option maxRecDepth 100000 in
set_option maxHeartbeats 4000000 in
theorem pX11_give (X : Cx) (w0 : Wd) (m : Nat) (hS : Sh w0 m) (A : Int64 → Rs → Prop) (a1 : Int32) (a2 : Int32) (a3 : Int64) (a5 : Int64) (r : Rs)
    (hv : CM X w0 m bX11_now mX11_now [] r (pV fun r3 => CM X w0 m bX11_orderOn mX11_orderOn [vI a1, vI a2] r3 (pV fun r6 => CM X w0 m bX11_prepare mX11_prepare [vI a2] r6 (pV fun r9 => iX11_give_24 X w0 m A a1 a2 (a3 - a5) 0 r9)))) :
    CM X w0 m bX11_give mX11_give [vI a1, vI a2, vJ a3, vJ a5] r (pJ A) := by
  intro w hW
  refine Ct.of (Q := qM w0 m (pJ A)) (lv := [(0, vR m), (1, vI a1), (2, vI a2), (3, vJ a3), (5, vJ a5)]) rfl (Nat.le_of_ble_eq_true rfl) rfl ?_
  refine e_aload_n (pc := 0) (i := 0) dX11_give_0 rfl rfl ?_
  refine e_callV (pc := 1) (ci := 11) (st := []) (rc' := 0) (rs' := 0) (B' := bX11_now) [] dX11_give_1 vRX11_257 kX11_now (by decide) rfl (hW.K hS) rfl rfl (Nat.le_of_ble_eq_true rfl) ⟨Nat.le_of_ble_eq_true rfl, Nat.le_of_ble_eq_true rfl⟩ rfl rfl (hv w hW) (fun zx1 w2 hq => ?_)
  obtain ⟨r3, hw2, ex1, hv⟩ := hq
  subst ex1
  show EJ X mX11_give _ 0 0 _ _ [] w2
  refine e_aload_n (pc := 4) (i := 0) dX11_give_4 rfl rfl ?_
  refine e_iload_n (pc := 5) (i := 1) dX11_give_5 rfl rfl ?_
  refine e_iload_n (pc := 6) (i := 2) dX11_give_6 rfl rfl ?_
  refine e_callV (pc := 7) (ci := 11) (st := []) (rc' := 0) (rs' := 0) (B' := bX11_orderOn) [vI a1, vI a2] dX11_give_7 vRX11_325 kX11_orderOn (by decide) rfl (hw2.K hS) rfl rfl (Nat.le_of_ble_eq_true rfl) ⟨Nat.le_of_ble_eq_true rfl, Nat.le_of_ble_eq_true rfl⟩ rfl rfl (hv w2 hw2) (fun zx4 w5 hq => ?_)
  obtain ⟨r6, hw5, ex4, hv⟩ := hq
  subst ex4
  show EJ X mX11_give _ 0 0 _ _ [] w5
  refine e_aload_n (pc := 10) (i := 0) dX11_give_10 rfl rfl ?_
  refine e_iload_n (pc := 11) (i := 2) dX11_give_11 rfl rfl ?_
  refine e_callV (pc := 12) (ci := 11) (st := []) (rc' := 0) (rs' := 0) (B' := bX11_prepare) [vI a2] dX11_give_12 vRX11_334 kX11_prepare (by decide) rfl (hw5.K hS) rfl rfl (Nat.le_of_ble_eq_true rfl) ⟨Nat.le_of_ble_eq_true rfl, Nat.le_of_ble_eq_true rfl⟩ rfl rfl (hv w5 hw5) (fun zx7 w8 hq => ?_)
  obtain ⟨r9, hw8, ex7, hv⟩ := hq
  subst ex7
  show EJ X mX11_give _ 0 0 _ _ [] w8
  refine e_lload_n (pc := 15) (i := 3) dX11_give_15 rfl rfl ?_
  refine e_lload (pc := 16) (i := 5) dX11_give_16 rfl ?_
  refine e_lsub (pc := 18) dX11_give_18 ?_
  refine e_lstore (pc := 19) (i := 7) (lv' := [(0, vR m), (1, vI a1), (2, vI a2), (3, vJ a3), (5, vJ a5), (7, vJ (a3 - a5))]) dX11_give_19 (by decide) rfl ?_
  refine e_iconst (pc := 21) (v := 0) dX11_give_21 (by decide) ?_
  refine e_istore (pc := 22) (i := 9) (lv' := [(0, vR m), (1, vI a1), (2, vI a2), (3, vJ a3), (5, vJ a5), (7, vJ (a3 - a5)), (9, vI 0)]) dX11_give_22 (by decide) rfl ?_
  exact EJ.drop [0, 1, 2, 7, 9] rfl (hv w8 hw8)
set_option maxRecDepth 100000 in
set_option maxHeartbeats 4000000 in
theorem pX11_wrongSale (X : Cx) (w0 : Wd) (m : Nat) (hS : Sh w0 m) (A : Int32 → Rs → Prop) (a1 : Int32) (a2 : Int32) (a3 : Int64) (a5 : Int64) (r : Rs)
    (hv : CM X w0 m bX11_wrong mX11_wrong [vI a1, vI a2] r (pI fun x1 r3 => ((x1 ≤ 0) → (((lg_cmp a3 0) < 0) → A 5 r3) ∧ ((¬ (lg_cmp a3 0) < 0) → ((0 < (lg_cmp a3 999999999999)) → A 5 r3) ∧ ((¬ 0 < (lg_cmp a3 999999999999)) → (((lg_cmp a5 0) < 0) → A 5 r3) ∧ ((¬ (lg_cmp a5 0) < 0) → ((0 < (lg_cmp a5 999999999999)) → A 5 r3) ∧ ((¬ 0 < (lg_cmp a5 999999999999)) → (((lg_cmp a5 a3) ≤ 0) → A 0 r3) ∧ ((¬ (lg_cmp a5 a3) ≤ 0) → A 5 r3)))))) ∧ ((¬ x1 ≤ 0) → A x1 r3))) :
    CM X w0 m bX11_wrongSale mX11_wrongSale [vI a1, vI a2, vJ a3, vJ a5] r (pI A) := by
  intro w hW
  refine Ct.of (Q := qM w0 m (pI A)) (lv := [(0, vR m), (1, vI a1), (2, vI a2), (3, vJ a3), (5, vJ a5)]) rfl (Nat.le_of_ble_eq_true rfl) rfl ?_
  refine e_aload_n (pc := 0) (i := 0) dX11_wrongSale_0 rfl rfl ?_
  refine e_iload_n (pc := 1) (i := 1) dX11_wrongSale_1 rfl rfl ?_
  refine e_iload_n (pc := 2) (i := 2) dX11_wrongSale_2 rfl rfl ?_
  refine e_callV (pc := 3) (ci := 11) (st := []) (rc' := 0) (rs' := 0) (B' := bX11_wrong) [vI a1, vI a2] dX11_wrongSale_3 vRX11_235 kX11_wrong (by decide) rfl (hW.K hS) rfl rfl (Nat.le_of_ble_eq_true rfl) ⟨Nat.le_of_ble_eq_true rfl, Nat.le_of_ble_eq_true rfl⟩ rfl rfl (hv w hW) (fun zx1 w2 hq => ?_)
  obtain ⟨r3, hw2, x1, ex1, hv⟩ := hq
  subst ex1
  show EJ X mX11_wrongSale _ 0 0 _ _ (vI x1 :: []) w2
  refine e_istore (pc := 6) (i := 7) (lv' := [(0, vR m), (1, vI a1), (2, vI a2), (3, vJ a3), (5, vJ a5), (7, vI x1)]) dX11_wrongSale_6 (by decide) rfl ?_
  refine e_iload (pc := 8) (i := 7) dX11_wrongSale_8 rfl ?_
  refine e_if_le (pc := 10) (tgt := 16) dX11_wrongSale_10 (by decide) (fun h4 => ?_) (fun h4 => ?_)
  · replace hv := hv.1 h4
    refine e_lload_n (pc := 16) (i := 3) dX11_wrongSale_16 rfl rfl ?_
    refine e_lconst (pc := 17) (v := 0) dX11_wrongSale_17 (by decide) ?_
    refine e_lcmp (pc := 18) dX11_wrongSale_18 ?_
    refine e_if_lt (pc := 19) (tgt := 53) dX11_wrongSale_19 (by decide) (fun h5 => ?_) (fun h5 => ?_)
    · replace hv := hv.1 h5
      refine e_iconst (pc := 53) (v := 5) dX11_wrongSale_53 (by decide) ?_
      refine e_goto (pc := 54) (tgt := 58) dX11_wrongSale_54 (by decide) ?_
      exact e_ireturn (pc := 58) dX11_wrongSale_58 rfl ⟨r3, hw2, _, rfl, hv⟩
    · replace hv := hv.2 h5
      refine e_lload_n (pc := 22) (i := 3) dX11_wrongSale_22 rfl rfl ?_
      refine e_ldc2 (pc := 23) (v := 999999999999) dX11_wrongSale_23 (tb_a5 176 (by decide +kernel) rfl) ?_
      refine e_lcmp (pc := 26) dX11_wrongSale_26 ?_
      refine e_if_gt (pc := 27) (tgt := 53) dX11_wrongSale_27 (by decide) (fun h6 => ?_) (fun h6 => ?_)
      · replace hv := hv.1 h6
        refine e_iconst (pc := 53) (v := 5) dX11_wrongSale_53 (by decide) ?_
        refine e_goto (pc := 54) (tgt := 58) dX11_wrongSale_54 (by decide) ?_
        exact e_ireturn (pc := 58) dX11_wrongSale_58 rfl ⟨r3, hw2, _, rfl, hv⟩
      · replace hv := hv.2 h6
        refine e_lload (pc := 30) (i := 5) dX11_wrongSale_30 rfl ?_
        refine e_lconst (pc := 32) (v := 0) dX11_wrongSale_32 (by decide) ?_
        refine e_lcmp (pc := 33) dX11_wrongSale_33 ?_
        refine e_if_lt (pc := 34) (tgt := 53) dX11_wrongSale_34 (by decide) (fun h7 => ?_) (fun h7 => ?_)
        · replace hv := hv.1 h7
          refine e_iconst (pc := 53) (v := 5) dX11_wrongSale_53 (by decide) ?_
          refine e_goto (pc := 54) (tgt := 58) dX11_wrongSale_54 (by decide) ?_
          exact e_ireturn (pc := 58) dX11_wrongSale_58 rfl ⟨r3, hw2, _, rfl, hv⟩
        · replace hv := hv.2 h7
          refine e_lload (pc := 37) (i := 5) dX11_wrongSale_37 rfl ?_
          refine e_ldc2 (pc := 39) (v := 999999999999) dX11_wrongSale_39 (tb_a5 176 (by decide +kernel) rfl) ?_
          refine e_lcmp (pc := 42) dX11_wrongSale_42 ?_
          refine e_if_gt (pc := 43) (tgt := 53) dX11_wrongSale_43 (by decide) (fun h8 => ?_) (fun h8 => ?_)
          · replace hv := hv.1 h8
            refine e_iconst (pc := 53) (v := 5) dX11_wrongSale_53 (by decide) ?_
            refine e_goto (pc := 54) (tgt := 58) dX11_wrongSale_54 (by decide) ?_
            exact e_ireturn (pc := 58) dX11_wrongSale_58 rfl ⟨r3, hw2, _, rfl, hv⟩
          · replace hv := hv.2 h8
            refine e_lload (pc := 46) (i := 5) dX11_wrongSale_46 rfl ?_
            refine e_lload_n (pc := 48) (i := 3) dX11_wrongSale_48 rfl rfl ?_
            refine e_lcmp (pc := 49) dX11_wrongSale_49 ?_
            refine e_if_le (pc := 50) (tgt := 57) dX11_wrongSale_50 (by decide) (fun h9 => ?_) (fun h9 => ?_)
            · replace hv := hv.1 h9
              refine e_iconst (pc := 57) (v := 0) dX11_wrongSale_57 (by decide) ?_
              exact e_ireturn (pc := 58) dX11_wrongSale_58 rfl ⟨r3, hw2, _, rfl, hv⟩
            · replace hv := hv.2 h9
              refine e_iconst (pc := 53) (v := 5) dX11_wrongSale_53 (by decide) ?_
              refine e_goto (pc := 54) (tgt := 58) dX11_wrongSale_54 (by decide) ?_
              exact e_ireturn (pc := 58) dX11_wrongSale_58 rfl ⟨r3, hw2, _, rfl, hv⟩
  · replace hv := hv.2 h4
    refine e_iload (pc := 13) (i := 7) dX11_wrongSale_13 rfl ?_
    exact e_ireturn (pc := 15) dX11_wrongSale_15 rfl ⟨r3, hw2, _, rfl, hv⟩
set_option maxRecDepth 100000 in
set_option maxHeartbeats 4000000 in
theorem pX11_sale (X : Cx) (w0 : Wd) (m : Nat) (hS : Sh w0 m) (A : Int64 → Rs → Prop) (a1 : Int32) (a2 : Int32) (a3 : Int64) (a5 : Int64) (r : Rs)
    (hv : CM X w0 m bX11_wrongSale mX11_wrongSale [vI a1, vI a2, vJ a3, vJ a5] r (pI fun x1 r3 => ((x1 ≤ 0) → ∀ r5 : Rs, r5 = uS r3 41 0 → CM X w0 m bX11_give mX11_give [vI a1, vI a2, vJ a3, vJ a5] r5 (pJ fun x7 r9 => A x7 r9)) ∧ ((¬ x1 ≤ 0) → CM X w0 m bX11_refuse mX11_refuse [vI x1] r3 (pI fun x10 r12 => A x10.toInt64 r12)))) :
    CM X w0 m bX11_sale mX11_sale [vI a1, vI a2, vJ a3, vJ a5] r (pJ A) := by
  intro w hW
  refine Ct.of (Q := qM w0 m (pJ A)) (lv := [(0, vR m), (1, vI a1), (2, vI a2), (3, vJ a3), (5, vJ a5)]) rfl (Nat.le_of_ble_eq_true rfl) rfl ?_
  refine e_aload_n (pc := 0) (i := 0) dX11_sale_0 rfl rfl ?_
  refine e_iload_n (pc := 1) (i := 1) dX11_sale_1 rfl rfl ?_
  refine e_iload_n (pc := 2) (i := 2) dX11_sale_2 rfl rfl ?_
  refine e_lload_n (pc := 3) (i := 3) dX11_sale_3 rfl rfl ?_
  refine e_lload (pc := 4) (i := 5) dX11_sale_4 rfl ?_
  refine e_callV (pc := 6) (ci := 11) (st := []) (rc' := 0) (rs' := 0) (B' := bX11_wrongSale) [vI a1, vI a2, vJ a3, vJ a5] dX11_sale_6 vRX11_354 kX11_wrongSale (by decide) rfl (hW.K hS) rfl rfl (Nat.le_of_ble_eq_true rfl) ⟨Nat.le_of_ble_eq_true rfl, Nat.le_of_ble_eq_true rfl⟩ rfl rfl (hv w hW) (fun zx1 w2 hq => ?_)
  obtain ⟨r3, hw2, x1, ex1, hv⟩ := hq
  subst ex1
  show EJ X mX11_sale _ 0 0 _ _ (vI x1 :: []) w2
  refine e_istore (pc := 9) (i := 7) (lv' := [(0, vR m), (1, vI a1), (2, vI a2), (3, vJ a3), (5, vJ a5), (7, vI x1)]) dX11_sale_9 (by decide) rfl ?_
  refine e_iload (pc := 11) (i := 7) dX11_sale_11 rfl ?_
  refine e_if_le (pc := 13) (tgt := 24) dX11_sale_13 (by decide) (fun h4 => ?_) (fun h4 => ?_)
  · replace hv := hv.1 h4
    refine e_aload_n (pc := 24) (i := 0) dX11_sale_24 rfl rfl ?_
    refine e_iconst (pc := 25) (v := 0) dX11_sale_25 (by decide) ?_
    refine n_putS (pc := 26) hS hw2 41 dX11_sale_26 fRX11_163 rfl rfl (fun w6 hw6 => ?_)
    obtain ⟨r5, er5⟩ : ∃ r5 : Rs, r5 = uS r3 41 0 := ⟨_, rfl⟩
    replace hv := hv r5 er5
    rw [← er5] at hw6
    refine e_aload_n (pc := 29) (i := 0) dX11_sale_29 rfl rfl ?_
    refine e_iload_n (pc := 30) (i := 1) dX11_sale_30 rfl rfl ?_
    refine e_iload_n (pc := 31) (i := 2) dX11_sale_31 rfl rfl ?_
    refine e_lload_n (pc := 32) (i := 3) dX11_sale_32 rfl rfl ?_
    refine e_lload (pc := 33) (i := 5) dX11_sale_33 rfl ?_
    refine e_callV (pc := 35) (ci := 11) (st := []) (rc' := 0) (rs' := 0) (B' := bX11_give) [vI a1, vI a2, vJ a3, vJ a5] dX11_sale_35 vRX11_358 kX11_give (by decide) rfl (hw6.K hS) rfl rfl (Nat.le_of_ble_eq_true rfl) ⟨Nat.le_of_ble_eq_true rfl, Nat.le_of_ble_eq_true rfl⟩ rfl rfl (hv w6 hw6) (fun zx7 w8 hq => ?_)
    obtain ⟨r9, hw8, x7, ex7, hv⟩ := hq
    subst ex7
    show EJ X mX11_sale _ 0 0 _ _ (vJ x7 :: []) w8
    exact e_lreturn (pc := 38) dX11_sale_38 rfl ⟨r9, hw8, _, rfl, hv⟩
  · replace hv := hv.2 h4
    refine e_aload_n (pc := 16) (i := 0) dX11_sale_16 rfl rfl ?_
    refine e_iload (pc := 17) (i := 7) dX11_sale_17 rfl ?_
    refine e_callV (pc := 19) (ci := 11) (st := []) (rc' := 0) (rs' := 0) (B' := bX11_refuse) [vI x1] dX11_sale_19 vRX11_231 kX11_refuse (by decide) rfl (hw2.K hS) rfl rfl (Nat.le_of_ble_eq_true rfl) ⟨Nat.le_of_ble_eq_true rfl, Nat.le_of_ble_eq_true rfl⟩ rfl rfl (hv w2 hw2) (fun zx10 w11 hq => ?_)
    obtain ⟨r12, hw11, x10, ex10, hv⟩ := hq
    subst ex10
    show EJ X mX11_sale _ 0 0 _ _ (vI x10 :: []) w11
    refine e_i2l (pc := 22) dX11_sale_22 ?_
    exact e_lreturn (pc := 23) dX11_sale_23 rfl ⟨r12, hw11, _, rfl, hv⟩
abbrev iX11_sell_38 (X : Cx) (w0 : Wd) (m : Nat) (A : Int64 → Rs → Prop) (l2 : Int32) (l8 : Int64) (l10 : Int32) (r : Rs) : Prop := ∀ w, Wm w0 m r w → EJ X mX11_sell (vw X bX11_sell (qM w0 m (pJ A))) 0 0 38 [(0, vR m), (2, vI l2), (8, vJ l8), (10, vI l10)] [] w
abbrev iX11_sell_195 (X : Cx) (w0 : Wd) (m : Nat) (A : Int64 → Rs → Prop) (l8 : Int64) (l10 : Int32) (r : Rs) : Prop := ∀ w, Wm w0 m r w → EJ X mX11_sell (vw X bX11_sell (qM w0 m (pJ A))) 0 0 195 [(0, vR m), (8, vJ l8), (10, vI l10)] [] w
set_option maxRecDepth 100000 in
set_option maxHeartbeats 4000000 in
theorem rX11_sell_195 (X : Cx) (w0 : Wd) (m : Nat) (hS : Sh w0 m) (A : Int64 → Rs → Prop) (l8 : Int64) (l10 : Int32) (r : Rs)
    (hv : (((sS r 58) ≤ l10) → ∀ r2 : Rs, r2 = uS r 43 ((sS r 43) + 1) → ∀ r4 : Rs, r4 = uS r2 41 0 → A l8 r4) ∧ ((¬ (sS r 58) ≤ l10) → vp_in l10 301 ∧ vp_in (rI r 55 l10.toNatClampNeg) 301 ∧ ∀ r8 : Rs, r8 = uI r 17 (rI r 55 l10.toNatClampNeg).toNatClampNeg (sS r 39) → iX11_sell_195 X w0 m A l8 (l10 + 1) r8)) :
    iX11_sell_195 X w0 m A l8 l10 r := by
  intro w hW
  refine e_iload (pc := 195) (i := 10) dX11_sell_195 rfl ?_
  refine e_aload_n (pc := 197) (i := 0) dX11_sell_197 rfl rfl ?_
  refine n_getS (pc := 198) hS hW 58 dX11_sell_198 fRX11_313 rfl ?_
  refine e_icmp_ge (pc := 201) (tgt := 226) dX11_sell_201 (by decide) (fun h1 => ?_) (fun h1 => ?_)
  · replace hv := hv.1 h1
    refine e_aload_n (pc := 226) (i := 0) dX11_sell_226 rfl rfl ?_
    refine e_dup (pc := 227) dX11_sell_227 rfl ?_
    refine n_getS (pc := 228) hS hW 43 dX11_sell_228 fRX11_362 rfl ?_
    refine e_iconst (pc := 231) (v := 1) dX11_sell_231 (by decide) ?_
    refine e_iadd (pc := 232) dX11_sell_232 ?_
    refine n_putS (pc := 233) hS hW 43 dX11_sell_233 fRX11_362 rfl rfl (fun w3 hw3 => ?_)
    obtain ⟨r2, er2⟩ : ∃ r2 : Rs, r2 = uS r 43 ((sS r 43) + 1) := ⟨_, rfl⟩
    replace hv := hv r2 er2
    rw [← er2] at hw3
    refine e_aload_n (pc := 236) (i := 0) dX11_sell_236 rfl rfl ?_
    refine e_iconst (pc := 237) (v := 0) dX11_sell_237 (by decide) ?_
    refine n_putS (pc := 238) hS hw3 41 dX11_sell_238 fRX11_163 rfl rfl (fun w5 hw5 => ?_)
    obtain ⟨r4, er4⟩ : ∃ r4 : Rs, r4 = uS r2 41 0 := ⟨_, rfl⟩
    replace hv := hv r4 er4
    rw [← er4] at hw5
    refine e_lload (pc := 241) (i := 8) dX11_sell_241 rfl ?_
    exact e_lreturn (pc := 243) dX11_sell_243 rfl ⟨r4, hw5, _, rfl, hv⟩
  · replace hv := hv.2 h1
    refine e_aload_n (pc := 204) (i := 0) dX11_sell_204 rfl rfl ?_
    refine n_get (pc := 205) hS hW 17 dX11_sell_205 fRX11_60 rfl ?_
    refine e_aload_n (pc := 208) (i := 0) dX11_sell_208 rfl rfl ?_
    refine n_get (pc := 209) hS hW 55 dX11_sell_209 fRX11_142 rfl ?_
    refine e_iload (pc := 212) (i := 10) dX11_sell_212 rfl ?_
    have hi6 : vp_in l10 301 := hv.1
    replace hv := hv.2
    refine n_iald (pc := 214) (wa := w) hS hW 55 dX11_sell_214 (by decide) rfl hi6 rfl ?_
    refine e_aload_n (pc := 215) (i := 0) dX11_sell_215 rfl rfl ?_
    refine n_getS (pc := 216) hS hW 39 dX11_sell_216 fRX11_166 rfl ?_
    have hi7 : vp_in (rI r 55 l10.toNatClampNeg) 301 := hv.1
    replace hv := hv.2
    refine n_iast (pc := 219) (wa := w) hS hW 17 dX11_sell_219 (by decide) rfl hi7 rfl (fun w9 hw9 => ?_)
    obtain ⟨r8, er8⟩ : ∃ r8 : Rs, r8 = uI r 17 (rI r 55 l10.toNatClampNeg).toNatClampNeg (sS r 39) := ⟨_, rfl⟩
    replace hv := hv r8 er8
    rw [← er8] at hw9
    refine e_iinc (pc := 220) (v := l10 + 1) (lv' := [(0, vR m), (8, vJ l8), (10, vI (l10 + 1))]) dX11_sell_220 rfl rfl (by decide) rfl ?_
    refine e_goto (pc := 223) (tgt := 195) dX11_sell_223 (by decide) ?_
    exact hv w9 hw9
set_option maxRecDepth 100000 in
set_option maxHeartbeats 4000000 in
theorem rX11_sell_38 (X : Cx) (w0 : Wd) (m : Nat) (hS : Sh w0 m) (A : Int64 → Rs → Prop) (l2 : Int32) (l8 : Int64) (l10 : Int32) (r : Rs)
    (hv : (((sS r 30) < l10) → iX11_sell_195 X w0 m A l8 0 r) ∧ ((¬ (sS r 30) < l10) → vp_in l10 301 ∧ ((¬ (rI r 61 l10.toNatClampNeg) = 0) → vp_in l10 301 ∧ vp_in l10 301 ∧ vp_in l10 301 ∧ vp_in l10 301 ∧ ((¬ (rI r 3 l10.toNatClampNeg) = 4) → vp_in l10 301 ∧ vp_in l10 301 ∧ ∀ r11 : Rs, r11 = uJ r 8 l10.toNatClampNeg (if ((rJ r 60 l10.toNatClampNeg) - (rJ r 59 l10.toNatClampNeg)) < (rJ r 8 l10.toNatClampNeg) then ((rJ r 60 l10.toNatClampNeg) - (rJ r 59 l10.toNatClampNeg)) else (rJ r 8 l10.toNatClampNeg)) → vp_in (rI r 5 l10.toNatClampNeg) 301 ∧ ((¬ (rI r11 18 (rI r 5 l10.toNatClampNeg).toNatClampNeg) = 0) → vp_in (rI r 5 l10.toNatClampNeg) 301 ∧ ∀ r16 : Rs, r16 = uI r11 18 (rI r 5 l10.toNatClampNeg).toNatClampNeg 1 → vp_in ((60 * l10) + l2) 18060 ∧ ∀ r19 : Rs, r19 = uI r16 28 ((60 * l10) + l2).toNatClampNeg (sS r16 39) → vp_in ((60 * l10) + l2) 18060 ∧ ∀ r22 : Rs, r22 = uI r19 29 ((60 * l10) + l2).toNatClampNeg (sS r19 39) → iX11_sell_38 X w0 m A l2 l8 (l10 + 1) r22) ∧ (((rI r11 18 (rI r 5 l10.toNatClampNeg).toNatClampNeg) = 0) → vp_in l10 301 ∧ ((¬ (rI r11 3 l10.toNatClampNeg) = 4) → vp_in (rI r 5 l10.toNatClampNeg) 301 ∧ ∀ r27 : Rs, r27 = uI r11 18 (rI r 5 l10.toNatClampNeg).toNatClampNeg 0 → vp_in ((60 * l10) + l2) 18060 ∧ ∀ r30 : Rs, r30 = uI r27 28 ((60 * l10) + l2).toNatClampNeg (sS r27 39) → vp_in ((60 * l10) + l2) 18060 ∧ ∀ r33 : Rs, r33 = uI r30 29 ((60 * l10) + l2).toNatClampNeg (sS r30 39) → iX11_sell_38 X w0 m A l2 l8 (l10 + 1) r33) ∧ (((rI r11 3 l10.toNatClampNeg) = 4) → vp_in (rI r 5 l10.toNatClampNeg) 301 ∧ ∀ r36 : Rs, r36 = uI r11 18 (rI r 5 l10.toNatClampNeg).toNatClampNeg 1 → vp_in ((60 * l10) + l2) 18060 ∧ ∀ r39 : Rs, r39 = uI r36 28 ((60 * l10) + l2).toNatClampNeg (sS r36 39) → vp_in ((60 * l10) + l2) 18060 ∧ ∀ r42 : Rs, r42 = uI r39 29 ((60 * l10) + l2).toNatClampNeg (sS r39 39) → iX11_sell_38 X w0 m A l2 l8 (l10 + 1) r42))) ∧ (((rI r 3 l10.toNatClampNeg) = 4) → vp_in l10 301 ∧ ∀ r45 : Rs, r45 = uJ r 8 l10.toNatClampNeg ((rJ r 60 l10.toNatClampNeg) - (rJ r 59 l10.toNatClampNeg)) → vp_in (rI r 5 l10.toNatClampNeg) 301 ∧ ((¬ (rI r45 18 (rI r 5 l10.toNatClampNeg).toNatClampNeg) = 0) → vp_in (rI r 5 l10.toNatClampNeg) 301 ∧ ∀ r50 : Rs, r50 = uI r45 18 (rI r 5 l10.toNatClampNeg).toNatClampNeg 1 → vp_in ((60 * l10) + l2) 18060 ∧ ∀ r53 : Rs, r53 = uI r50 28 ((60 * l10) + l2).toNatClampNeg (sS r50 39) → vp_in ((60 * l10) + l2) 18060 ∧ ∀ r56 : Rs, r56 = uI r53 29 ((60 * l10) + l2).toNatClampNeg (sS r53 39) → iX11_sell_38 X w0 m A l2 l8 (l10 + 1) r56) ∧ (((rI r45 18 (rI r 5 l10.toNatClampNeg).toNatClampNeg) = 0) → vp_in l10 301 ∧ ((¬ (rI r45 3 l10.toNatClampNeg) = 4) → vp_in (rI r 5 l10.toNatClampNeg) 301 ∧ ∀ r61 : Rs, r61 = uI r45 18 (rI r 5 l10.toNatClampNeg).toNatClampNeg 0 → vp_in ((60 * l10) + l2) 18060 ∧ ∀ r64 : Rs, r64 = uI r61 28 ((60 * l10) + l2).toNatClampNeg (sS r61 39) → vp_in ((60 * l10) + l2) 18060 ∧ ∀ r67 : Rs, r67 = uI r64 29 ((60 * l10) + l2).toNatClampNeg (sS r64 39) → iX11_sell_38 X w0 m A l2 l8 (l10 + 1) r67) ∧ (((rI r45 3 l10.toNatClampNeg) = 4) → vp_in (rI r 5 l10.toNatClampNeg) 301 ∧ ∀ r70 : Rs, r70 = uI r45 18 (rI r 5 l10.toNatClampNeg).toNatClampNeg 1 → vp_in ((60 * l10) + l2) 18060 ∧ ∀ r73 : Rs, r73 = uI r70 28 ((60 * l10) + l2).toNatClampNeg (sS r70 39) → vp_in ((60 * l10) + l2) 18060 ∧ ∀ r76 : Rs, r76 = uI r73 29 ((60 * l10) + l2).toNatClampNeg (sS r73 39) → iX11_sell_38 X w0 m A l2 l8 (l10 + 1) r76)))) ∧ (((rI r 61 l10.toNatClampNeg) = 0) → iX11_sell_38 X w0 m A l2 l8 (l10 + 1) r))) :
    iX11_sell_38 X w0 m A l2 l8 l10 r := by
  intro w hW
  refine e_iload (pc := 38) (i := 10) dX11_sell_38 rfl ?_
  refine e_aload_n (pc := 40) (i := 0) dX11_sell_40 rfl rfl ?_
  refine n_getS (pc := 41) hS hW 30 dX11_sell_41 fRX11_169 rfl ?_
  refine e_icmp_gt (pc := 44) (tgt := 192) dX11_sell_44 (by decide) (fun h1 => ?_) (fun h1 => ?_)
  · replace hv := hv.1 h1
    refine e_iconst (pc := 192) (v := 0) dX11_sell_192 (by decide) ?_
    refine e_istore (pc := 193) (i := 10) (lv' := [(0, vR m), (2, vI l2), (8, vJ l8), (10, vI 0)]) dX11_sell_193 (by decide) rfl ?_
    exact EJ.drop [0, 8, 10] rfl (hv w hW)
  · replace hv := hv.2 h1
    refine e_aload_n (pc := 47) (i := 0) dX11_sell_47 rfl rfl ?_
    refine n_get (pc := 48) hS hW 61 dX11_sell_48 fRX11_154 rfl ?_
    refine e_iload (pc := 51) (i := 10) dX11_sell_51 rfl ?_
    have hi2 : vp_in l10 301 := hv.1
    replace hv := hv.2
    refine n_zald (pc := 53) (wa := w) hS hW 61 dX11_sell_53 (by decide) rfl hi2 rfl ?_
    refine e_if_ne (pc := 54) (tgt := 60) dX11_sell_54 (by decide) (fun h3 => ?_) (fun h3 => ?_)
    · replace hv := hv.1 h3
      refine e_aload_n (pc := 60) (i := 0) dX11_sell_60 rfl rfl ?_
      refine n_get (pc := 61) hS hW 60 dX11_sell_61 fRX11_151 rfl ?_
      refine e_iload (pc := 64) (i := 10) dX11_sell_64 rfl ?_
      have hi4 : vp_in l10 301 := hv.1
      replace hv := hv.2
      refine n_lald (pc := 66) (wa := w) hS hW 60 dX11_sell_66 (by decide) rfl hi4 rfl ?_
      refine e_aload_n (pc := 67) (i := 0) dX11_sell_67 rfl rfl ?_
      refine n_get (pc := 68) hS hW 59 dX11_sell_68 fRX11_148 rfl ?_
      refine e_iload (pc := 71) (i := 10) dX11_sell_71 rfl ?_
      have hi5 : vp_in l10 301 := hv.1
      replace hv := hv.2
      refine n_lald (pc := 73) (wa := w) hS hW 59 dX11_sell_73 (by decide) rfl hi5 rfl ?_
      refine e_lsub (pc := 74) dX11_sell_74 ?_
      refine e_lstore (pc := 75) (i := 11) (lv' := [(0, vR m), (2, vI l2), (8, vJ l8), (10, vI l10), (11, vJ ((rJ r 60 l10.toNatClampNeg) - (rJ r 59 l10.toNatClampNeg)))]) dX11_sell_75 (by decide) rfl ?_
      refine e_aload_n (pc := 77) (i := 0) dX11_sell_77 rfl rfl ?_
      refine n_get (pc := 78) hS hW 5 dX11_sell_78 fRX11_23 rfl ?_
      refine e_iload (pc := 81) (i := 10) dX11_sell_81 rfl ?_
      have hi6 : vp_in l10 301 := hv.1
      replace hv := hv.2
      refine n_iald (pc := 83) (wa := w) hS hW 5 dX11_sell_83 (by decide) rfl hi6 rfl ?_
      refine e_istore (pc := 84) (i := 13) (lv' := [(0, vR m), (2, vI l2), (8, vJ l8), (10, vI l10), (11, vJ ((rJ r 60 l10.toNatClampNeg) - (rJ r 59 l10.toNatClampNeg))), (13, vI (rI r 5 l10.toNatClampNeg))]) dX11_sell_84 (by decide) rfl ?_
      refine e_aload_n (pc := 86) (i := 0) dX11_sell_86 rfl rfl ?_
      refine n_get (pc := 87) hS hW 8 dX11_sell_87 fRX11_32 rfl ?_
      refine e_iload (pc := 90) (i := 10) dX11_sell_90 rfl ?_
      refine e_aload_n (pc := 92) (i := 0) dX11_sell_92 rfl rfl ?_
      refine n_get (pc := 93) hS hW 3 dX11_sell_93 fRX11_17 rfl ?_
      refine e_iload (pc := 96) (i := 10) dX11_sell_96 rfl ?_
      have hi7 : vp_in l10 301 := hv.1
      replace hv := hv.2
      refine n_iald (pc := 98) (wa := w) hS hW 3 dX11_sell_98 (by decide) rfl hi7 rfl ?_
      refine e_iconst (pc := 99) (v := 4) dX11_sell_99 (by decide) ?_
      refine e_icmp_ne (pc := 100) (tgt := 108) dX11_sell_100 (by decide) (fun h8 => ?_) (fun h8 => ?_)
      · replace hv := hv.1 h8
        refine e_aload_n (pc := 108) (i := 0) dX11_sell_108 rfl rfl ?_
        refine n_get (pc := 109) hS hW 8 dX11_sell_109 fRX11_32 rfl ?_
        refine e_iload (pc := 112) (i := 10) dX11_sell_112 rfl ?_
        have hi9 : vp_in l10 301 := hv.1
        replace hv := hv.2
        refine n_lald (pc := 114) (wa := w) hS hW 8 dX11_sell_114 (by decide) rfl hi9 rfl ?_
        refine e_lload (pc := 115) (i := 11) dX11_sell_115 rfl ?_
        refine e_mminJ (pc := 117) dX11_sell_117 (tb_a5 138 (by decide +kernel) rfl) (Nat.le_of_ble_eq_true rfl) (Nat.le_of_ble_eq_true rfl) ?_
        have hi10 : vp_in l10 301 := hv.1
        replace hv := hv.2
        refine n_last (pc := 120) (wa := w) hS hW 8 dX11_sell_120 (by decide) rfl hi10 rfl (fun w12 hw12 => ?_)
        obtain ⟨r11, er11⟩ : ∃ r11 : Rs, r11 = uJ r 8 l10.toNatClampNeg (if ((rJ r 60 l10.toNatClampNeg) - (rJ r 59 l10.toNatClampNeg)) < (rJ r 8 l10.toNatClampNeg) then ((rJ r 60 l10.toNatClampNeg) - (rJ r 59 l10.toNatClampNeg)) else (rJ r 8 l10.toNatClampNeg)) := ⟨_, rfl⟩
        replace hv := hv r11 er11
        rw [← er11] at hw12
        refine e_aload_n (pc := 121) (i := 0) dX11_sell_121 rfl rfl ?_
        refine n_get (pc := 122) hS hw12 18 dX11_sell_122 fRX11_63 rfl ?_
        refine e_iload (pc := 125) (i := 13) dX11_sell_125 rfl ?_
        refine e_aload_n (pc := 127) (i := 0) dX11_sell_127 rfl rfl ?_
        refine n_get (pc := 128) hS hw12 18 dX11_sell_128 fRX11_63 rfl ?_
        refine e_iload (pc := 131) (i := 13) dX11_sell_131 rfl ?_
        have hi13 : vp_in (rI r 5 l10.toNatClampNeg) 301 := hv.1
        replace hv := hv.2
        refine n_zald (pc := 133) (wa := w12) hS hw12 18 dX11_sell_133 (by decide) rfl hi13 rfl ?_
        refine e_if_ne (pc := 134) (tgt := 148) dX11_sell_134 (by decide) (fun h14 => ?_) (fun h14 => ?_)
        · replace hv := hv.1 h14
          refine e_iconst (pc := 148) (v := 1) dX11_sell_148 (by decide) ?_
          refine e_goto (pc := 149) (tgt := 153) dX11_sell_149 (by decide) ?_
          have hi15 : vp_in (rI r 5 l10.toNatClampNeg) 301 := hv.1
          replace hv := hv.2
          refine n_zast (pc := 153) (wa := w12) hS hw12 18 dX11_sell_153 (by decide) rfl hi15 rfl (Or.inr rfl) (fun w17 hw17 => ?_)
          obtain ⟨r16, er16⟩ : ∃ r16 : Rs, r16 = uI r11 18 (rI r 5 l10.toNatClampNeg).toNatClampNeg 1 := ⟨_, rfl⟩
          replace hv := hv r16 er16
          rw [← er16] at hw17
          refine e_aload_n (pc := 154) (i := 0) dX11_sell_154 rfl rfl ?_
          refine n_get (pc := 155) hS hw17 28 dX11_sell_155 fRX11_93 rfl ?_
          refine e_bipush (pc := 158) (v := 60) dX11_sell_158 (by decide) ?_
          refine e_iload (pc := 160) (i := 10) dX11_sell_160 rfl ?_
          refine e_imul (pc := 162) dX11_sell_162 ?_
          refine e_iload_n (pc := 163) (i := 2) dX11_sell_163 rfl rfl ?_
          refine e_iadd (pc := 164) dX11_sell_164 ?_
          refine e_aload_n (pc := 165) (i := 0) dX11_sell_165 rfl rfl ?_
          refine n_getS (pc := 166) hS hw17 39 dX11_sell_166 fRX11_166 rfl ?_
          have hi18 : vp_in ((60 * l10) + l2) 18060 := hv.1
          replace hv := hv.2
          refine n_iast (pc := 169) (wa := w17) hS hw17 28 dX11_sell_169 (by decide) rfl hi18 rfl (fun w20 hw20 => ?_)
          obtain ⟨r19, er19⟩ : ∃ r19 : Rs, r19 = uI r16 28 ((60 * l10) + l2).toNatClampNeg (sS r16 39) := ⟨_, rfl⟩
          replace hv := hv r19 er19
          rw [← er19] at hw20
          refine e_aload_n (pc := 170) (i := 0) dX11_sell_170 rfl rfl ?_
          refine n_get (pc := 171) hS hw20 29 dX11_sell_171 fRX11_96 rfl ?_
          refine e_bipush (pc := 174) (v := 60) dX11_sell_174 (by decide) ?_
          refine e_iload (pc := 176) (i := 10) dX11_sell_176 rfl ?_
          refine e_imul (pc := 178) dX11_sell_178 ?_
          refine e_iload_n (pc := 179) (i := 2) dX11_sell_179 rfl rfl ?_
          refine e_iadd (pc := 180) dX11_sell_180 ?_
          refine e_aload_n (pc := 181) (i := 0) dX11_sell_181 rfl rfl ?_
          refine n_getS (pc := 182) hS hw20 39 dX11_sell_182 fRX11_166 rfl ?_
          have hi21 : vp_in ((60 * l10) + l2) 18060 := hv.1
          replace hv := hv.2
          refine n_iast (pc := 185) (wa := w20) hS hw20 29 dX11_sell_185 (by decide) rfl hi21 rfl (fun w23 hw23 => ?_)
          obtain ⟨r22, er22⟩ : ∃ r22 : Rs, r22 = uI r19 29 ((60 * l10) + l2).toNatClampNeg (sS r19 39) := ⟨_, rfl⟩
          replace hv := hv r22 er22
          rw [← er22] at hw23
          refine e_iinc (pc := 186) (v := l10 + 1) (lv' := [(0, vR m), (2, vI l2), (8, vJ l8), (10, vI (l10 + 1)), (11, vJ ((rJ r 60 l10.toNatClampNeg) - (rJ r 59 l10.toNatClampNeg))), (13, vI (rI r 5 l10.toNatClampNeg))]) dX11_sell_186 rfl rfl (by decide) rfl ?_
          refine e_goto (pc := 189) (tgt := 38) dX11_sell_189 (by decide) ?_
          exact EJ.drop [0, 2, 8, 10] rfl (hv w23 hw23)
        · replace hv := hv.2 h14
          refine e_aload_n (pc := 137) (i := 0) dX11_sell_137 rfl rfl ?_
          refine n_get (pc := 138) hS hw12 3 dX11_sell_138 fRX11_17 rfl ?_
          refine e_iload (pc := 141) (i := 10) dX11_sell_141 rfl ?_
          have hi24 : vp_in l10 301 := hv.1
          replace hv := hv.2
          refine n_iald (pc := 143) (wa := w12) hS hw12 3 dX11_sell_143 (by decide) rfl hi24 rfl ?_
          refine e_iconst (pc := 144) (v := 4) dX11_sell_144 (by decide) ?_
          refine e_icmp_ne (pc := 145) (tgt := 152) dX11_sell_145 (by decide) (fun h25 => ?_) (fun h25 => ?_)
          · replace hv := hv.1 h25
            refine e_iconst (pc := 152) (v := 0) dX11_sell_152 (by decide) ?_
            have hi26 : vp_in (rI r 5 l10.toNatClampNeg) 301 := hv.1
            replace hv := hv.2
            refine n_zast (pc := 153) (wa := w12) hS hw12 18 dX11_sell_153 (by decide) rfl hi26 rfl (Or.inl rfl) (fun w28 hw28 => ?_)
            obtain ⟨r27, er27⟩ : ∃ r27 : Rs, r27 = uI r11 18 (rI r 5 l10.toNatClampNeg).toNatClampNeg 0 := ⟨_, rfl⟩
            replace hv := hv r27 er27
            rw [← er27] at hw28
            refine e_aload_n (pc := 154) (i := 0) dX11_sell_154 rfl rfl ?_
            refine n_get (pc := 155) hS hw28 28 dX11_sell_155 fRX11_93 rfl ?_
            refine e_bipush (pc := 158) (v := 60) dX11_sell_158 (by decide) ?_
            refine e_iload (pc := 160) (i := 10) dX11_sell_160 rfl ?_
            refine e_imul (pc := 162) dX11_sell_162 ?_
            refine e_iload_n (pc := 163) (i := 2) dX11_sell_163 rfl rfl ?_
            refine e_iadd (pc := 164) dX11_sell_164 ?_
            refine e_aload_n (pc := 165) (i := 0) dX11_sell_165 rfl rfl ?_
            refine n_getS (pc := 166) hS hw28 39 dX11_sell_166 fRX11_166 rfl ?_
            have hi29 : vp_in ((60 * l10) + l2) 18060 := hv.1
            replace hv := hv.2
            refine n_iast (pc := 169) (wa := w28) hS hw28 28 dX11_sell_169 (by decide) rfl hi29 rfl (fun w31 hw31 => ?_)
            obtain ⟨r30, er30⟩ : ∃ r30 : Rs, r30 = uI r27 28 ((60 * l10) + l2).toNatClampNeg (sS r27 39) := ⟨_, rfl⟩
            replace hv := hv r30 er30
            rw [← er30] at hw31
            refine e_aload_n (pc := 170) (i := 0) dX11_sell_170 rfl rfl ?_
            refine n_get (pc := 171) hS hw31 29 dX11_sell_171 fRX11_96 rfl ?_
            refine e_bipush (pc := 174) (v := 60) dX11_sell_174 (by decide) ?_
            refine e_iload (pc := 176) (i := 10) dX11_sell_176 rfl ?_
            refine e_imul (pc := 178) dX11_sell_178 ?_
            refine e_iload_n (pc := 179) (i := 2) dX11_sell_179 rfl rfl ?_
            refine e_iadd (pc := 180) dX11_sell_180 ?_
            refine e_aload_n (pc := 181) (i := 0) dX11_sell_181 rfl rfl ?_
            refine n_getS (pc := 182) hS hw31 39 dX11_sell_182 fRX11_166 rfl ?_
            have hi32 : vp_in ((60 * l10) + l2) 18060 := hv.1
            replace hv := hv.2
            refine n_iast (pc := 185) (wa := w31) hS hw31 29 dX11_sell_185 (by decide) rfl hi32 rfl (fun w34 hw34 => ?_)
            obtain ⟨r33, er33⟩ : ∃ r33 : Rs, r33 = uI r30 29 ((60 * l10) + l2).toNatClampNeg (sS r30 39) := ⟨_, rfl⟩
            replace hv := hv r33 er33
            rw [← er33] at hw34
            refine e_iinc (pc := 186) (v := l10 + 1) (lv' := [(0, vR m), (2, vI l2), (8, vJ l8), (10, vI (l10 + 1)), (11, vJ ((rJ r 60 l10.toNatClampNeg) - (rJ r 59 l10.toNatClampNeg))), (13, vI (rI r 5 l10.toNatClampNeg))]) dX11_sell_186 rfl rfl (by decide) rfl ?_
            refine e_goto (pc := 189) (tgt := 38) dX11_sell_189 (by decide) ?_
            exact EJ.drop [0, 2, 8, 10] rfl (hv w34 hw34)
          · replace hv := hv.2 h25
            refine e_iconst (pc := 148) (v := 1) dX11_sell_148 (by decide) ?_
            refine e_goto (pc := 149) (tgt := 153) dX11_sell_149 (by decide) ?_
            have hi35 : vp_in (rI r 5 l10.toNatClampNeg) 301 := hv.1
            replace hv := hv.2
            refine n_zast (pc := 153) (wa := w12) hS hw12 18 dX11_sell_153 (by decide) rfl hi35 rfl (Or.inr rfl) (fun w37 hw37 => ?_)
            obtain ⟨r36, er36⟩ : ∃ r36 : Rs, r36 = uI r11 18 (rI r 5 l10.toNatClampNeg).toNatClampNeg 1 := ⟨_, rfl⟩
            replace hv := hv r36 er36
            rw [← er36] at hw37
            refine e_aload_n (pc := 154) (i := 0) dX11_sell_154 rfl rfl ?_
            refine n_get (pc := 155) hS hw37 28 dX11_sell_155 fRX11_93 rfl ?_
            refine e_bipush (pc := 158) (v := 60) dX11_sell_158 (by decide) ?_
            refine e_iload (pc := 160) (i := 10) dX11_sell_160 rfl ?_
            refine e_imul (pc := 162) dX11_sell_162 ?_
            refine e_iload_n (pc := 163) (i := 2) dX11_sell_163 rfl rfl ?_
            refine e_iadd (pc := 164) dX11_sell_164 ?_
            refine e_aload_n (pc := 165) (i := 0) dX11_sell_165 rfl rfl ?_
            refine n_getS (pc := 166) hS hw37 39 dX11_sell_166 fRX11_166 rfl ?_
            have hi38 : vp_in ((60 * l10) + l2) 18060 := hv.1
            replace hv := hv.2
            refine n_iast (pc := 169) (wa := w37) hS hw37 28 dX11_sell_169 (by decide) rfl hi38 rfl (fun w40 hw40 => ?_)
            obtain ⟨r39, er39⟩ : ∃ r39 : Rs, r39 = uI r36 28 ((60 * l10) + l2).toNatClampNeg (sS r36 39) := ⟨_, rfl⟩
            replace hv := hv r39 er39
            rw [← er39] at hw40
            refine e_aload_n (pc := 170) (i := 0) dX11_sell_170 rfl rfl ?_
            refine n_get (pc := 171) hS hw40 29 dX11_sell_171 fRX11_96 rfl ?_
            refine e_bipush (pc := 174) (v := 60) dX11_sell_174 (by decide) ?_
            refine e_iload (pc := 176) (i := 10) dX11_sell_176 rfl ?_
            refine e_imul (pc := 178) dX11_sell_178 ?_
            refine e_iload_n (pc := 179) (i := 2) dX11_sell_179 rfl rfl ?_
            refine e_iadd (pc := 180) dX11_sell_180 ?_
            refine e_aload_n (pc := 181) (i := 0) dX11_sell_181 rfl rfl ?_
            refine n_getS (pc := 182) hS hw40 39 dX11_sell_182 fRX11_166 rfl ?_
            have hi41 : vp_in ((60 * l10) + l2) 18060 := hv.1
            replace hv := hv.2
            refine n_iast (pc := 185) (wa := w40) hS hw40 29 dX11_sell_185 (by decide) rfl hi41 rfl (fun w43 hw43 => ?_)
            obtain ⟨r42, er42⟩ : ∃ r42 : Rs, r42 = uI r39 29 ((60 * l10) + l2).toNatClampNeg (sS r39 39) := ⟨_, rfl⟩
            replace hv := hv r42 er42
            rw [← er42] at hw43
            refine e_iinc (pc := 186) (v := l10 + 1) (lv' := [(0, vR m), (2, vI l2), (8, vJ l8), (10, vI (l10 + 1)), (11, vJ ((rJ r 60 l10.toNatClampNeg) - (rJ r 59 l10.toNatClampNeg))), (13, vI (rI r 5 l10.toNatClampNeg))]) dX11_sell_186 rfl rfl (by decide) rfl ?_
            refine e_goto (pc := 189) (tgt := 38) dX11_sell_189 (by decide) ?_
            exact EJ.drop [0, 2, 8, 10] rfl (hv w43 hw43)
      · replace hv := hv.2 h8
        refine e_lload (pc := 103) (i := 11) dX11_sell_103 rfl ?_
        refine e_goto (pc := 105) (tgt := 120) dX11_sell_105 (by decide) ?_
        have hi44 : vp_in l10 301 := hv.1
        replace hv := hv.2
        refine n_last (pc := 120) (wa := w) hS hW 8 dX11_sell_120 (by decide) rfl hi44 rfl (fun w46 hw46 => ?_)
        obtain ⟨r45, er45⟩ : ∃ r45 : Rs, r45 = uJ r 8 l10.toNatClampNeg ((rJ r 60 l10.toNatClampNeg) - (rJ r 59 l10.toNatClampNeg)) := ⟨_, rfl⟩
        replace hv := hv r45 er45
        rw [← er45] at hw46
        refine e_aload_n (pc := 121) (i := 0) dX11_sell_121 rfl rfl ?_
        refine n_get (pc := 122) hS hw46 18 dX11_sell_122 fRX11_63 rfl ?_
        refine e_iload (pc := 125) (i := 13) dX11_sell_125 rfl ?_
        refine e_aload_n (pc := 127) (i := 0) dX11_sell_127 rfl rfl ?_
        refine n_get (pc := 128) hS hw46 18 dX11_sell_128 fRX11_63 rfl ?_
        refine e_iload (pc := 131) (i := 13) dX11_sell_131 rfl ?_
        have hi47 : vp_in (rI r 5 l10.toNatClampNeg) 301 := hv.1
        replace hv := hv.2
        refine n_zald (pc := 133) (wa := w46) hS hw46 18 dX11_sell_133 (by decide) rfl hi47 rfl ?_
        refine e_if_ne (pc := 134) (tgt := 148) dX11_sell_134 (by decide) (fun h48 => ?_) (fun h48 => ?_)
        · replace hv := hv.1 h48
          refine e_iconst (pc := 148) (v := 1) dX11_sell_148 (by decide) ?_
          refine e_goto (pc := 149) (tgt := 153) dX11_sell_149 (by decide) ?_
          have hi49 : vp_in (rI r 5 l10.toNatClampNeg) 301 := hv.1
          replace hv := hv.2
          refine n_zast (pc := 153) (wa := w46) hS hw46 18 dX11_sell_153 (by decide) rfl hi49 rfl (Or.inr rfl) (fun w51 hw51 => ?_)
          obtain ⟨r50, er50⟩ : ∃ r50 : Rs, r50 = uI r45 18 (rI r 5 l10.toNatClampNeg).toNatClampNeg 1 := ⟨_, rfl⟩
          replace hv := hv r50 er50
          rw [← er50] at hw51
          refine e_aload_n (pc := 154) (i := 0) dX11_sell_154 rfl rfl ?_
          refine n_get (pc := 155) hS hw51 28 dX11_sell_155 fRX11_93 rfl ?_
          refine e_bipush (pc := 158) (v := 60) dX11_sell_158 (by decide) ?_
          refine e_iload (pc := 160) (i := 10) dX11_sell_160 rfl ?_
          refine e_imul (pc := 162) dX11_sell_162 ?_
          refine e_iload_n (pc := 163) (i := 2) dX11_sell_163 rfl rfl ?_
          refine e_iadd (pc := 164) dX11_sell_164 ?_
          refine e_aload_n (pc := 165) (i := 0) dX11_sell_165 rfl rfl ?_
          refine n_getS (pc := 166) hS hw51 39 dX11_sell_166 fRX11_166 rfl ?_
          have hi52 : vp_in ((60 * l10) + l2) 18060 := hv.1
          replace hv := hv.2
          refine n_iast (pc := 169) (wa := w51) hS hw51 28 dX11_sell_169 (by decide) rfl hi52 rfl (fun w54 hw54 => ?_)
          obtain ⟨r53, er53⟩ : ∃ r53 : Rs, r53 = uI r50 28 ((60 * l10) + l2).toNatClampNeg (sS r50 39) := ⟨_, rfl⟩
          replace hv := hv r53 er53
          rw [← er53] at hw54
          refine e_aload_n (pc := 170) (i := 0) dX11_sell_170 rfl rfl ?_
          refine n_get (pc := 171) hS hw54 29 dX11_sell_171 fRX11_96 rfl ?_
          refine e_bipush (pc := 174) (v := 60) dX11_sell_174 (by decide) ?_
          refine e_iload (pc := 176) (i := 10) dX11_sell_176 rfl ?_
          refine e_imul (pc := 178) dX11_sell_178 ?_
          refine e_iload_n (pc := 179) (i := 2) dX11_sell_179 rfl rfl ?_
          refine e_iadd (pc := 180) dX11_sell_180 ?_
          refine e_aload_n (pc := 181) (i := 0) dX11_sell_181 rfl rfl ?_
          refine n_getS (pc := 182) hS hw54 39 dX11_sell_182 fRX11_166 rfl ?_
          have hi55 : vp_in ((60 * l10) + l2) 18060 := hv.1
          replace hv := hv.2
          refine n_iast (pc := 185) (wa := w54) hS hw54 29 dX11_sell_185 (by decide) rfl hi55 rfl (fun w57 hw57 => ?_)
          obtain ⟨r56, er56⟩ : ∃ r56 : Rs, r56 = uI r53 29 ((60 * l10) + l2).toNatClampNeg (sS r53 39) := ⟨_, rfl⟩
          replace hv := hv r56 er56
          rw [← er56] at hw57
          refine e_iinc (pc := 186) (v := l10 + 1) (lv' := [(0, vR m), (2, vI l2), (8, vJ l8), (10, vI (l10 + 1)), (11, vJ ((rJ r 60 l10.toNatClampNeg) - (rJ r 59 l10.toNatClampNeg))), (13, vI (rI r 5 l10.toNatClampNeg))]) dX11_sell_186 rfl rfl (by decide) rfl ?_
          refine e_goto (pc := 189) (tgt := 38) dX11_sell_189 (by decide) ?_
          exact EJ.drop [0, 2, 8, 10] rfl (hv w57 hw57)
        · replace hv := hv.2 h48
          refine e_aload_n (pc := 137) (i := 0) dX11_sell_137 rfl rfl ?_
          refine n_get (pc := 138) hS hw46 3 dX11_sell_138 fRX11_17 rfl ?_
          refine e_iload (pc := 141) (i := 10) dX11_sell_141 rfl ?_
          have hi58 : vp_in l10 301 := hv.1
          replace hv := hv.2
          refine n_iald (pc := 143) (wa := w46) hS hw46 3 dX11_sell_143 (by decide) rfl hi58 rfl ?_
          refine e_iconst (pc := 144) (v := 4) dX11_sell_144 (by decide) ?_
          refine e_icmp_ne (pc := 145) (tgt := 152) dX11_sell_145 (by decide) (fun h59 => ?_) (fun h59 => ?_)
          · replace hv := hv.1 h59
            refine e_iconst (pc := 152) (v := 0) dX11_sell_152 (by decide) ?_
            have hi60 : vp_in (rI r 5 l10.toNatClampNeg) 301 := hv.1
            replace hv := hv.2
            refine n_zast (pc := 153) (wa := w46) hS hw46 18 dX11_sell_153 (by decide) rfl hi60 rfl (Or.inl rfl) (fun w62 hw62 => ?_)
            obtain ⟨r61, er61⟩ : ∃ r61 : Rs, r61 = uI r45 18 (rI r 5 l10.toNatClampNeg).toNatClampNeg 0 := ⟨_, rfl⟩
            replace hv := hv r61 er61
            rw [← er61] at hw62
            refine e_aload_n (pc := 154) (i := 0) dX11_sell_154 rfl rfl ?_
            refine n_get (pc := 155) hS hw62 28 dX11_sell_155 fRX11_93 rfl ?_
            refine e_bipush (pc := 158) (v := 60) dX11_sell_158 (by decide) ?_
            refine e_iload (pc := 160) (i := 10) dX11_sell_160 rfl ?_
            refine e_imul (pc := 162) dX11_sell_162 ?_
            refine e_iload_n (pc := 163) (i := 2) dX11_sell_163 rfl rfl ?_
            refine e_iadd (pc := 164) dX11_sell_164 ?_
            refine e_aload_n (pc := 165) (i := 0) dX11_sell_165 rfl rfl ?_
            refine n_getS (pc := 166) hS hw62 39 dX11_sell_166 fRX11_166 rfl ?_
            have hi63 : vp_in ((60 * l10) + l2) 18060 := hv.1
            replace hv := hv.2
            refine n_iast (pc := 169) (wa := w62) hS hw62 28 dX11_sell_169 (by decide) rfl hi63 rfl (fun w65 hw65 => ?_)
            obtain ⟨r64, er64⟩ : ∃ r64 : Rs, r64 = uI r61 28 ((60 * l10) + l2).toNatClampNeg (sS r61 39) := ⟨_, rfl⟩
            replace hv := hv r64 er64
            rw [← er64] at hw65
            refine e_aload_n (pc := 170) (i := 0) dX11_sell_170 rfl rfl ?_
            refine n_get (pc := 171) hS hw65 29 dX11_sell_171 fRX11_96 rfl ?_
            refine e_bipush (pc := 174) (v := 60) dX11_sell_174 (by decide) ?_
            refine e_iload (pc := 176) (i := 10) dX11_sell_176 rfl ?_
            refine e_imul (pc := 178) dX11_sell_178 ?_
            refine e_iload_n (pc := 179) (i := 2) dX11_sell_179 rfl rfl ?_
            refine e_iadd (pc := 180) dX11_sell_180 ?_
            refine e_aload_n (pc := 181) (i := 0) dX11_sell_181 rfl rfl ?_
            refine n_getS (pc := 182) hS hw65 39 dX11_sell_182 fRX11_166 rfl ?_
            have hi66 : vp_in ((60 * l10) + l2) 18060 := hv.1
            replace hv := hv.2
            refine n_iast (pc := 185) (wa := w65) hS hw65 29 dX11_sell_185 (by decide) rfl hi66 rfl (fun w68 hw68 => ?_)
            obtain ⟨r67, er67⟩ : ∃ r67 : Rs, r67 = uI r64 29 ((60 * l10) + l2).toNatClampNeg (sS r64 39) := ⟨_, rfl⟩
            replace hv := hv r67 er67
            rw [← er67] at hw68
            refine e_iinc (pc := 186) (v := l10 + 1) (lv' := [(0, vR m), (2, vI l2), (8, vJ l8), (10, vI (l10 + 1)), (11, vJ ((rJ r 60 l10.toNatClampNeg) - (rJ r 59 l10.toNatClampNeg))), (13, vI (rI r 5 l10.toNatClampNeg))]) dX11_sell_186 rfl rfl (by decide) rfl ?_
            refine e_goto (pc := 189) (tgt := 38) dX11_sell_189 (by decide) ?_
            exact EJ.drop [0, 2, 8, 10] rfl (hv w68 hw68)
          · replace hv := hv.2 h59
            refine e_iconst (pc := 148) (v := 1) dX11_sell_148 (by decide) ?_
            refine e_goto (pc := 149) (tgt := 153) dX11_sell_149 (by decide) ?_
            have hi69 : vp_in (rI r 5 l10.toNatClampNeg) 301 := hv.1
            replace hv := hv.2
            refine n_zast (pc := 153) (wa := w46) hS hw46 18 dX11_sell_153 (by decide) rfl hi69 rfl (Or.inr rfl) (fun w71 hw71 => ?_)
            obtain ⟨r70, er70⟩ : ∃ r70 : Rs, r70 = uI r45 18 (rI r 5 l10.toNatClampNeg).toNatClampNeg 1 := ⟨_, rfl⟩
            replace hv := hv r70 er70
            rw [← er70] at hw71
            refine e_aload_n (pc := 154) (i := 0) dX11_sell_154 rfl rfl ?_
            refine n_get (pc := 155) hS hw71 28 dX11_sell_155 fRX11_93 rfl ?_
            refine e_bipush (pc := 158) (v := 60) dX11_sell_158 (by decide) ?_
            refine e_iload (pc := 160) (i := 10) dX11_sell_160 rfl ?_
            refine e_imul (pc := 162) dX11_sell_162 ?_
            refine e_iload_n (pc := 163) (i := 2) dX11_sell_163 rfl rfl ?_
            refine e_iadd (pc := 164) dX11_sell_164 ?_
            refine e_aload_n (pc := 165) (i := 0) dX11_sell_165 rfl rfl ?_
            refine n_getS (pc := 166) hS hw71 39 dX11_sell_166 fRX11_166 rfl ?_
            have hi72 : vp_in ((60 * l10) + l2) 18060 := hv.1
            replace hv := hv.2
            refine n_iast (pc := 169) (wa := w71) hS hw71 28 dX11_sell_169 (by decide) rfl hi72 rfl (fun w74 hw74 => ?_)
            obtain ⟨r73, er73⟩ : ∃ r73 : Rs, r73 = uI r70 28 ((60 * l10) + l2).toNatClampNeg (sS r70 39) := ⟨_, rfl⟩
            replace hv := hv r73 er73
            rw [← er73] at hw74
            refine e_aload_n (pc := 170) (i := 0) dX11_sell_170 rfl rfl ?_
            refine n_get (pc := 171) hS hw74 29 dX11_sell_171 fRX11_96 rfl ?_
            refine e_bipush (pc := 174) (v := 60) dX11_sell_174 (by decide) ?_
            refine e_iload (pc := 176) (i := 10) dX11_sell_176 rfl ?_
            refine e_imul (pc := 178) dX11_sell_178 ?_
            refine e_iload_n (pc := 179) (i := 2) dX11_sell_179 rfl rfl ?_
            refine e_iadd (pc := 180) dX11_sell_180 ?_
            refine e_aload_n (pc := 181) (i := 0) dX11_sell_181 rfl rfl ?_
            refine n_getS (pc := 182) hS hw74 39 dX11_sell_182 fRX11_166 rfl ?_
            have hi75 : vp_in ((60 * l10) + l2) 18060 := hv.1
            replace hv := hv.2
            refine n_iast (pc := 185) (wa := w74) hS hw74 29 dX11_sell_185 (by decide) rfl hi75 rfl (fun w77 hw77 => ?_)
            obtain ⟨r76, er76⟩ : ∃ r76 : Rs, r76 = uI r73 29 ((60 * l10) + l2).toNatClampNeg (sS r73 39) := ⟨_, rfl⟩
            replace hv := hv r76 er76
            rw [← er76] at hw77
            refine e_iinc (pc := 186) (v := l10 + 1) (lv' := [(0, vR m), (2, vI l2), (8, vJ l8), (10, vI (l10 + 1)), (11, vJ ((rJ r 60 l10.toNatClampNeg) - (rJ r 59 l10.toNatClampNeg))), (13, vI (rI r 5 l10.toNatClampNeg))]) dX11_sell_186 rfl rfl (by decide) rfl ?_
            refine e_goto (pc := 189) (tgt := 38) dX11_sell_189 (by decide) ?_
            exact EJ.drop [0, 2, 8, 10] rfl (hv w77 hw77)
    · replace hv := hv.2 h3
      refine e_goto (pc := 57) (tgt := 186) dX11_sell_57 (by decide) ?_
      refine e_iinc (pc := 186) (v := l10 + 1) (lv' := [(0, vR m), (2, vI l2), (8, vJ l8), (10, vI (l10 + 1))]) dX11_sell_186 rfl rfl (by decide) rfl ?_
      refine e_goto (pc := 189) (tgt := 38) dX11_sell_189 (by decide) ?_
      exact hv w hW
set_option maxRecDepth 100000 in
set_option maxHeartbeats 4000000 in
theorem pX11_sell (X : Cx) (w0 : Wd) (m : Nat) (hS : Sh w0 m) (A : Int64 → Rs → Prop) (a1 : Int32) (a2 : Int32) (a3 : Int64) (a5 : Int64) (r : Rs)
    (hv : CM X w0 m bX11_wrongSale mX11_wrongSale [vI a1, vI a2, vJ a3, vJ a5] r (pI fun x1 r3 => ((x1 ≤ 0) → CM X w0 m bX11_give mX11_give [vI a1, vI a2, vJ a3, vJ a5] r3 (pJ fun x5 r7 => iX11_sell_38 X w0 m A a2 x5 1 r7)) ∧ ((¬ x1 ≤ 0) → CM X w0 m bX11_refuse mX11_refuse [vI x1] r3 (pI fun x8 r10 => A x8.toInt64 r10)))) :
    CM X w0 m bX11_sell mX11_sell [vI a1, vI a2, vJ a3, vJ a5] r (pJ A) := by
  intro w hW
  refine Ct.of (Q := qM w0 m (pJ A)) (lv := [(0, vR m), (1, vI a1), (2, vI a2), (3, vJ a3), (5, vJ a5)]) rfl (Nat.le_of_ble_eq_true rfl) rfl ?_
  refine e_aload_n (pc := 0) (i := 0) dX11_sell_0 rfl rfl ?_
  refine e_iload_n (pc := 1) (i := 1) dX11_sell_1 rfl rfl ?_
  refine e_iload_n (pc := 2) (i := 2) dX11_sell_2 rfl rfl ?_
  refine e_lload_n (pc := 3) (i := 3) dX11_sell_3 rfl rfl ?_
  refine e_lload (pc := 4) (i := 5) dX11_sell_4 rfl ?_
  refine e_callV (pc := 6) (ci := 11) (st := []) (rc' := 0) (rs' := 0) (B' := bX11_wrongSale) [vI a1, vI a2, vJ a3, vJ a5] dX11_sell_6 vRX11_354 kX11_wrongSale (by decide) rfl (hW.K hS) rfl rfl (Nat.le_of_ble_eq_true rfl) ⟨Nat.le_of_ble_eq_true rfl, Nat.le_of_ble_eq_true rfl⟩ rfl rfl (hv w hW) (fun zx1 w2 hq => ?_)
  obtain ⟨r3, hw2, x1, ex1, hv⟩ := hq
  subst ex1
  show EJ X mX11_sell _ 0 0 _ _ (vI x1 :: []) w2
  refine e_istore (pc := 9) (i := 7) (lv' := [(0, vR m), (1, vI a1), (2, vI a2), (3, vJ a3), (5, vJ a5), (7, vI x1)]) dX11_sell_9 (by decide) rfl ?_
  refine e_iload (pc := 11) (i := 7) dX11_sell_11 rfl ?_
  refine e_if_le (pc := 13) (tgt := 24) dX11_sell_13 (by decide) (fun h4 => ?_) (fun h4 => ?_)
  · replace hv := hv.1 h4
    refine e_aload_n (pc := 24) (i := 0) dX11_sell_24 rfl rfl ?_
    refine e_iload_n (pc := 25) (i := 1) dX11_sell_25 rfl rfl ?_
    refine e_iload_n (pc := 26) (i := 2) dX11_sell_26 rfl rfl ?_
    refine e_lload_n (pc := 27) (i := 3) dX11_sell_27 rfl rfl ?_
    refine e_lload (pc := 28) (i := 5) dX11_sell_28 rfl ?_
    refine e_callV (pc := 30) (ci := 11) (st := []) (rc' := 0) (rs' := 0) (B' := bX11_give) [vI a1, vI a2, vJ a3, vJ a5] dX11_sell_30 vRX11_358 kX11_give (by decide) rfl (hw2.K hS) rfl rfl (Nat.le_of_ble_eq_true rfl) ⟨Nat.le_of_ble_eq_true rfl, Nat.le_of_ble_eq_true rfl⟩ rfl rfl (hv w2 hw2) (fun zx5 w6 hq => ?_)
    obtain ⟨r7, hw6, x5, ex5, hv⟩ := hq
    subst ex5
    show EJ X mX11_sell _ 0 0 _ _ (vJ x5 :: []) w6
    refine e_lstore (pc := 33) (i := 8) (lv' := [(0, vR m), (1, vI a1), (2, vI a2), (3, vJ a3), (5, vJ a5), (7, vI x1), (8, vJ x5)]) dX11_sell_33 (by decide) rfl ?_
    refine e_iconst (pc := 35) (v := 1) dX11_sell_35 (by decide) ?_
    refine e_istore (pc := 36) (i := 10) (lv' := [(0, vR m), (1, vI a1), (2, vI a2), (3, vJ a3), (5, vJ a5), (7, vI x1), (8, vJ x5), (10, vI 1)]) dX11_sell_36 (by decide) rfl ?_
    exact EJ.drop [0, 2, 8, 10] rfl (hv w6 hw6)
  · replace hv := hv.2 h4
    refine e_aload_n (pc := 16) (i := 0) dX11_sell_16 rfl rfl ?_
    refine e_iload (pc := 17) (i := 7) dX11_sell_17 rfl ?_
    refine e_callV (pc := 19) (ci := 11) (st := []) (rc' := 0) (rs' := 0) (B' := bX11_refuse) [vI x1] dX11_sell_19 vRX11_231 kX11_refuse (by decide) rfl (hw2.K hS) rfl rfl (Nat.le_of_ble_eq_true rfl) ⟨Nat.le_of_ble_eq_true rfl, Nat.le_of_ble_eq_true rfl⟩ rfl rfl (hv w2 hw2) (fun zx8 w9 hq => ?_)
    obtain ⟨r10, hw9, x8, ex8, hv⟩ := hq
    subst ex8
    show EJ X mX11_sell _ 0 0 _ _ (vI x8 :: []) w9
    refine e_i2l (pc := 22) dX11_sell_22 ?_
    exact e_lreturn (pc := 23) dX11_sell_23 rfl ⟨r10, hw9, _, rfl, hv⟩
set_option maxRecDepth 100000 in
set_option maxHeartbeats 4000000 in
theorem pX11_share (X : Cx) (w0 : Wd) (m : Nat) (hS : Sh w0 m) (A : Int64 → Rs → Prop) (a1 : Int32) (r : Rs)
    (hv : CM X w0 m bX11_isEntry mX11_isEntry [vI a1] r (pI fun x1 r3 => ((x1 = 0) → A 0 r3) ∧ ((¬ x1 = 0) → vp_in a1 301 ∧ A (rJ r3 62 a1.toNatClampNeg) r3))) :
    CM X w0 m bX11_share mX11_share [vI a1] r (pJ A) := by
  intro w hW
  refine Ct.of (Q := qM w0 m (pJ A)) (lv := [(0, vR m), (1, vI a1)]) rfl (Nat.le_of_ble_eq_true rfl) rfl ?_
  refine e_aload_n (pc := 0) (i := 0) dX11_share_0 rfl rfl ?_
  refine e_iload_n (pc := 1) (i := 1) dX11_share_1 rfl rfl ?_
  refine e_callV (pc := 2) (ci := 11) (st := []) (rc' := 0) (rs' := 0) (B' := bX11_isEntry) [vI a1] dX11_share_2 vRX11_224 kX11_isEntry (by decide) rfl (hW.K hS) rfl rfl (Nat.le_of_ble_eq_true rfl) ⟨Nat.le_of_ble_eq_true rfl, Nat.le_of_ble_eq_true rfl⟩ rfl rfl (hv w hW) (fun zx1 w2 hq => ?_)
  obtain ⟨r3, hw2, x1, ex1, hv⟩ := hq
  subst ex1
  show EJ X mX11_share _ 0 0 _ _ (vI x1 :: []) w2
  refine e_if_eq (pc := 5) (tgt := 17) dX11_share_5 (by decide) (fun h4 => ?_) (fun h4 => ?_)
  · replace hv := hv.1 h4
    refine e_lconst (pc := 17) (v := 0) dX11_share_17 (by decide) ?_
    exact e_lreturn (pc := 18) dX11_share_18 rfl ⟨r3, hw2, _, rfl, hv⟩
  · replace hv := hv.2 h4
    refine e_aload_n (pc := 8) (i := 0) dX11_share_8 rfl rfl ?_
    refine n_get (pc := 9) hS hw2 62 dX11_share_9 fRX11_157 rfl ?_
    refine e_iload_n (pc := 12) (i := 1) dX11_share_12 rfl rfl ?_
    have hi5 : vp_in a1 301 := hv.1
    replace hv := hv.2
    refine n_lald (pc := 13) (wa := w2) hS hw2 62 dX11_share_13 (by decide) rfl hi5 rfl ?_
    refine e_goto (pc := 14) (tgt := 18) dX11_share_14 (by decide) ?_
    exact e_lreturn (pc := 18) dX11_share_18 rfl ⟨r3, hw2, _, rfl, hv⟩
set_option maxRecDepth 100000 in
set_option maxHeartbeats 4000000 in
theorem pX11_tell (X : Cx) (w0 : Wd) (m : Nat) (hS : Sh w0 m) (A : Int32 → Rs → Prop) (a1 : Int32) (a2 : Int64) (r : Rs)
    (hv : CM X w0 m bX11_isEntry mX11_isEntry [vI a1] r (pI fun x1 r3 => ((¬ x1 = 0) → ((0 ≤ (lg_cmp a2 0)) → vp_in a1 301 ∧ ∀ r7 : Rs, r7 = uJ r3 63 a1.toNatClampNeg a2 → ∀ r9 : Rs, r9 = uS r7 41 0 → A 1 r9) ∧ ((¬ 0 ≤ (lg_cmp a2 0)) → CM X w0 m bX11_no mX11_no [vI 5] r3 (pI fun x11 r13 => (x11 = 0 ∨ x11 = 1) ∧ A x11 r13))) ∧ ((x1 = 0) → CM X w0 m bX11_no mX11_no [vI 1] r3 (pI fun x14 r16 => (x14 = 0 ∨ x14 = 1) ∧ A x14 r16)))) :
    CM X w0 m bX11_tell mX11_tell [vI a1, vJ a2] r (pI A) := by
  intro w hW
  refine Ct.of (Q := qM w0 m (pI A)) (lv := [(0, vR m), (1, vI a1), (2, vJ a2)]) rfl (Nat.le_of_ble_eq_true rfl) rfl ?_
  refine e_aload_n (pc := 0) (i := 0) dX11_tell_0 rfl rfl ?_
  refine e_iload_n (pc := 1) (i := 1) dX11_tell_1 rfl rfl ?_
  refine e_callV (pc := 2) (ci := 11) (st := []) (rc' := 0) (rs' := 0) (B' := bX11_isEntry) [vI a1] dX11_tell_2 vRX11_224 kX11_isEntry (by decide) rfl (hW.K hS) rfl rfl (Nat.le_of_ble_eq_true rfl) ⟨Nat.le_of_ble_eq_true rfl, Nat.le_of_ble_eq_true rfl⟩ rfl rfl (hv w hW) (fun zx1 w2 hq => ?_)
  obtain ⟨r3, hw2, x1, ex1, hv⟩ := hq
  subst ex1
  show EJ X mX11_tell _ 0 0 _ _ (vI x1 :: []) w2
  refine e_if_ne (pc := 5) (tgt := 14) dX11_tell_5 (by decide) (fun h4 => ?_) (fun h4 => ?_)
  · replace hv := hv.1 h4
    refine e_lload_n (pc := 14) (i := 2) dX11_tell_14 rfl rfl ?_
    refine e_lconst (pc := 15) (v := 0) dX11_tell_15 (by decide) ?_
    refine e_lcmp (pc := 16) dX11_tell_16 ?_
    refine e_if_ge (pc := 17) (tgt := 26) dX11_tell_17 (by decide) (fun h5 => ?_) (fun h5 => ?_)
    · replace hv := hv.1 h5
      refine e_aload_n (pc := 26) (i := 0) dX11_tell_26 rfl rfl ?_
      refine n_get (pc := 27) hS hw2 63 dX11_tell_27 fRX11_160 rfl ?_
      refine e_iload_n (pc := 30) (i := 1) dX11_tell_30 rfl rfl ?_
      refine e_lload_n (pc := 31) (i := 2) dX11_tell_31 rfl rfl ?_
      have hi6 : vp_in a1 301 := hv.1
      replace hv := hv.2
      refine n_last (pc := 32) (wa := w2) hS hw2 63 dX11_tell_32 (by decide) rfl hi6 rfl (fun w8 hw8 => ?_)
      obtain ⟨r7, er7⟩ : ∃ r7 : Rs, r7 = uJ r3 63 a1.toNatClampNeg a2 := ⟨_, rfl⟩
      replace hv := hv r7 er7
      rw [← er7] at hw8
      refine e_aload_n (pc := 33) (i := 0) dX11_tell_33 rfl rfl ?_
      refine e_iconst (pc := 34) (v := 0) dX11_tell_34 (by decide) ?_
      refine n_putS (pc := 35) hS hw8 41 dX11_tell_35 fRX11_163 rfl rfl (fun w10 hw10 => ?_)
      obtain ⟨r9, er9⟩ : ∃ r9 : Rs, r9 = uS r7 41 0 := ⟨_, rfl⟩
      replace hv := hv r9 er9
      rw [← er9] at hw10
      refine e_iconst (pc := 38) (v := 1) dX11_tell_38 (by decide) ?_
      exact e_zreturn (pc := 39) dX11_tell_39 rfl (Or.inr rfl) ⟨r9, hw10, _, rfl, hv⟩
    · replace hv := hv.2 h5
      refine e_aload_n (pc := 20) (i := 0) dX11_tell_20 rfl rfl ?_
      refine e_iconst (pc := 21) (v := 5) dX11_tell_21 (by decide) ?_
      refine e_callV (pc := 22) (ci := 11) (st := []) (rc' := 0) (rs' := 0) (B' := bX11_no) [vI 5] dX11_tell_22 vRX11_238 kX11_no (by decide) rfl (hw2.K hS) rfl rfl (Nat.le_of_ble_eq_true rfl) ⟨Nat.le_of_ble_eq_true rfl, Nat.le_of_ble_eq_true rfl⟩ rfl rfl (hv w2 hw2) (fun zx11 w12 hq => ?_)
      obtain ⟨r13, hw12, x11, ex11, hv⟩ := hq
      subst ex11
      show EJ X mX11_tell _ 0 0 _ _ (vI x11 :: []) w12
      exact e_zreturn (pc := 25) dX11_tell_25 rfl hv.1 ⟨r13, hw12, _, rfl, hv.2⟩
  · replace hv := hv.2 h4
    refine e_aload_n (pc := 8) (i := 0) dX11_tell_8 rfl rfl ?_
    refine e_iconst (pc := 9) (v := 1) dX11_tell_9 (by decide) ?_
    refine e_callV (pc := 10) (ci := 11) (st := []) (rc' := 0) (rs' := 0) (B' := bX11_no) [vI 1] dX11_tell_10 vRX11_238 kX11_no (by decide) rfl (hw2.K hS) rfl rfl (Nat.le_of_ble_eq_true rfl) ⟨Nat.le_of_ble_eq_true rfl, Nat.le_of_ble_eq_true rfl⟩ rfl rfl (hv w2 hw2) (fun zx14 w15 hq => ?_)
    obtain ⟨r16, hw15, x14, ex14, hv⟩ := hq
    subst ex14
    show EJ X mX11_tell _ 0 0 _ _ (vI x14 :: []) w15
    exact e_zreturn (pc := 13) dX11_tell_13 rfl hv.1 ⟨r16, hw15, _, rfl, hv.2⟩
abbrev iX11_check_8 (X : Cx) (w0 : Wd) (m : Nat) (A : Int32 → Rs → Prop) (l1 : Int64) (l3 : Int32) (l4 : Int32) (r : Rs) : Prop := ∀ w, Wm w0 m r w → EJ X mX11_check (vw X bX11_check (qM w0 m (pI A))) 0 0 8 [(0, vR m), (1, vJ l1), (3, vI l3), (4, vI l4)] [] w
set_option maxRecDepth 100000 in
set_option maxHeartbeats 4000000 in
theorem rX11_check_8 (X : Cx) (w0 : Wd) (m : Nat) (hS : Sh w0 m) (A : Int32 → Rs → Prop) (l1 : Int64) (l3 : Int32) (l4 : Int32) (r : Rs)
    (hv : ((l4 ≤ 0) → ∀ r2 : Rs, r2 = uS r 41 0 → ((l3 = 0) → ((¬ (lg_cmp l1 (sO r2)) = 0) → A (-1) r2) ∧ (((lg_cmp l1 (sO r2)) = 0) → A 0 r2)) ∧ ((¬ l3 = 0) → A l3 r2)) ∧ ((¬ l4 ≤ 0) → vp_in l4 301 ∧ ((¬ (rI r 6 l4.toNatClampNeg) = 0) → vp_in l4 301 ∧ ∀ r9 : Rs, r9 = uJ r 63 l4.toNatClampNeg 0 → iX11_check_8 X w0 m A l1 l3 (l4 + (-1)) r9) ∧ (((rI r 6 l4.toNatClampNeg) = 0) → vp_in l4 301 ∧ vp_in l4 301 ∧ (((lg_cmp (rJ r 63 l4.toNatClampNeg) (rJ r 62 l4.toNatClampNeg)) = 0) → vp_in l4 301 ∧ ∀ r15 : Rs, r15 = uJ r 63 l4.toNatClampNeg 0 → iX11_check_8 X w0 m A l1 l3 (l4 + (-1)) r15) ∧ ((¬ (lg_cmp (rJ r 63 l4.toNatClampNeg) (rJ r 62 l4.toNatClampNeg)) = 0) → vp_in l4 301 ∧ ∀ r18 : Rs, r18 = uJ r 63 l4.toNatClampNeg 0 → iX11_check_8 X w0 m A l1 l4 (l4 + (-1)) r18)))) :
    iX11_check_8 X w0 m A l1 l3 l4 r := by
  intro w hW
  refine e_iload (pc := 8) (i := 4) dX11_check_8 rfl ?_
  refine e_if_le (pc := 10) (tgt := 58) dX11_check_10 (by decide) (fun h1 => ?_) (fun h1 => ?_)
  · replace hv := hv.1 h1
    refine e_aload_n (pc := 58) (i := 0) dX11_check_58 rfl rfl ?_
    refine e_iconst (pc := 59) (v := 0) dX11_check_59 (by decide) ?_
    refine n_putS (pc := 60) hS hW 41 dX11_check_60 fRX11_163 rfl rfl (fun w3 hw3 => ?_)
    obtain ⟨r2, er2⟩ : ∃ r2 : Rs, r2 = uS r 41 0 := ⟨_, rfl⟩
    replace hv := hv r2 er2
    rw [← er2] at hw3
    refine e_iload_n (pc := 63) (i := 3) dX11_check_63 rfl rfl ?_
    refine e_if_eq (pc := 64) (tgt := 71) dX11_check_64 (by decide) (fun h4 => ?_) (fun h4 => ?_)
    · replace hv := hv.1 h4
      refine e_lload_n (pc := 71) (i := 1) dX11_check_71 rfl rfl ?_
      refine e_aload_n (pc := 72) (i := 0) dX11_check_72 rfl rfl ?_
      refine n_getO (pc := 73) hS hw3 dX11_check_73 fRX11_350 ?_
      refine e_lcmp (pc := 76) dX11_check_76 ?_
      refine e_if_ne (pc := 77) (tgt := 84) dX11_check_77 (by decide) (fun h5 => ?_) (fun h5 => ?_)
      · replace hv := hv.1 h5
        refine e_iconst (pc := 84) (v := (-1)) dX11_check_84 (by decide) ?_
        exact e_ireturn (pc := 85) dX11_check_85 rfl ⟨r2, hw3, _, rfl, hv⟩
      · replace hv := hv.2 h5
        refine e_iconst (pc := 80) (v := 0) dX11_check_80 (by decide) ?_
        refine e_goto (pc := 81) (tgt := 85) dX11_check_81 (by decide) ?_
        exact e_ireturn (pc := 85) dX11_check_85 rfl ⟨r2, hw3, _, rfl, hv⟩
    · replace hv := hv.2 h4
      refine e_iload_n (pc := 67) (i := 3) dX11_check_67 rfl rfl ?_
      refine e_goto (pc := 68) (tgt := 85) dX11_check_68 (by decide) ?_
      exact e_ireturn (pc := 85) dX11_check_85 rfl ⟨r2, hw3, _, rfl, hv⟩
  · replace hv := hv.2 h1
    refine e_aload_n (pc := 13) (i := 0) dX11_check_13 rfl rfl ?_
    refine n_get (pc := 14) hS hW 6 dX11_check_14 fRX11_26 rfl ?_
    refine e_iload (pc := 17) (i := 4) dX11_check_17 rfl ?_
    have hi6 : vp_in l4 301 := hv.1
    replace hv := hv.2
    refine n_iald (pc := 19) (wa := w) hS hW 6 dX11_check_19 (by decide) rfl hi6 rfl ?_
    refine e_if_ne (pc := 20) (tgt := 44) dX11_check_20 (by decide) (fun h7 => ?_) (fun h7 => ?_)
    · replace hv := hv.1 h7
      refine e_aload_n (pc := 44) (i := 0) dX11_check_44 rfl rfl ?_
      refine n_get (pc := 45) hS hW 63 dX11_check_45 fRX11_160 rfl ?_
      refine e_iload (pc := 48) (i := 4) dX11_check_48 rfl ?_
      refine e_lconst (pc := 50) (v := 0) dX11_check_50 (by decide) ?_
      have hi8 : vp_in l4 301 := hv.1
      replace hv := hv.2
      refine n_last (pc := 51) (wa := w) hS hW 63 dX11_check_51 (by decide) rfl hi8 rfl (fun w10 hw10 => ?_)
      obtain ⟨r9, er9⟩ : ∃ r9 : Rs, r9 = uJ r 63 l4.toNatClampNeg 0 := ⟨_, rfl⟩
      replace hv := hv r9 er9
      rw [← er9] at hw10
      refine e_iinc (pc := 52) (v := l4 + (-1)) (lv' := [(0, vR m), (1, vJ l1), (3, vI l3), (4, vI (l4 + (-1)))]) dX11_check_52 rfl rfl (by decide) rfl ?_
      refine e_goto (pc := 55) (tgt := 8) dX11_check_55 (by decide) ?_
      exact hv w10 hw10
    · replace hv := hv.2 h7
      refine e_aload_n (pc := 23) (i := 0) dX11_check_23 rfl rfl ?_
      refine n_get (pc := 24) hS hW 63 dX11_check_24 fRX11_160 rfl ?_
      refine e_iload (pc := 27) (i := 4) dX11_check_27 rfl ?_
      have hi11 : vp_in l4 301 := hv.1
      replace hv := hv.2
      refine n_lald (pc := 29) (wa := w) hS hW 63 dX11_check_29 (by decide) rfl hi11 rfl ?_
      refine e_aload_n (pc := 30) (i := 0) dX11_check_30 rfl rfl ?_
      refine n_get (pc := 31) hS hW 62 dX11_check_31 fRX11_157 rfl ?_
      refine e_iload (pc := 34) (i := 4) dX11_check_34 rfl ?_
      have hi12 : vp_in l4 301 := hv.1
      replace hv := hv.2
      refine n_lald (pc := 36) (wa := w) hS hW 62 dX11_check_36 (by decide) rfl hi12 rfl ?_
      refine e_lcmp (pc := 37) dX11_check_37 ?_
      refine e_if_eq (pc := 38) (tgt := 44) dX11_check_38 (by decide) (fun h13 => ?_) (fun h13 => ?_)
      · replace hv := hv.1 h13
        refine e_aload_n (pc := 44) (i := 0) dX11_check_44 rfl rfl ?_
        refine n_get (pc := 45) hS hW 63 dX11_check_45 fRX11_160 rfl ?_
        refine e_iload (pc := 48) (i := 4) dX11_check_48 rfl ?_
        refine e_lconst (pc := 50) (v := 0) dX11_check_50 (by decide) ?_
        have hi14 : vp_in l4 301 := hv.1
        replace hv := hv.2
        refine n_last (pc := 51) (wa := w) hS hW 63 dX11_check_51 (by decide) rfl hi14 rfl (fun w16 hw16 => ?_)
        obtain ⟨r15, er15⟩ : ∃ r15 : Rs, r15 = uJ r 63 l4.toNatClampNeg 0 := ⟨_, rfl⟩
        replace hv := hv r15 er15
        rw [← er15] at hw16
        refine e_iinc (pc := 52) (v := l4 + (-1)) (lv' := [(0, vR m), (1, vJ l1), (3, vI l3), (4, vI (l4 + (-1)))]) dX11_check_52 rfl rfl (by decide) rfl ?_
        refine e_goto (pc := 55) (tgt := 8) dX11_check_55 (by decide) ?_
        exact hv w16 hw16
      · replace hv := hv.2 h13
        refine e_iload (pc := 41) (i := 4) dX11_check_41 rfl ?_
        refine e_istore_n (pc := 43) (i := 3) (lv' := [(0, vR m), (1, vJ l1), (3, vI l4), (4, vI l4)]) dX11_check_43 rfl (by decide) rfl ?_
        refine e_aload_n (pc := 44) (i := 0) dX11_check_44 rfl rfl ?_
        refine n_get (pc := 45) hS hW 63 dX11_check_45 fRX11_160 rfl ?_
        refine e_iload (pc := 48) (i := 4) dX11_check_48 rfl ?_
        refine e_lconst (pc := 50) (v := 0) dX11_check_50 (by decide) ?_
        have hi17 : vp_in l4 301 := hv.1
        replace hv := hv.2
        refine n_last (pc := 51) (wa := w) hS hW 63 dX11_check_51 (by decide) rfl hi17 rfl (fun w19 hw19 => ?_)
        obtain ⟨r18, er18⟩ : ∃ r18 : Rs, r18 = uJ r 63 l4.toNatClampNeg 0 := ⟨_, rfl⟩
        replace hv := hv r18 er18
        rw [← er18] at hw19
        refine e_iinc (pc := 52) (v := l4 + (-1)) (lv' := [(0, vR m), (1, vJ l1), (3, vI l4), (4, vI (l4 + (-1)))]) dX11_check_52 rfl rfl (by decide) rfl ?_
        refine e_goto (pc := 55) (tgt := 8) dX11_check_55 (by decide) ?_
        exact hv w19 hw19
set_option maxRecDepth 100000 in
set_option maxHeartbeats 4000000 in
theorem pX11_check (X : Cx) (w0 : Wd) (m : Nat) (hS : Sh w0 m) (A : Int32 → Rs → Prop) (a1 : Int64) (r : Rs)
    (hv : iX11_check_8 X w0 m A a1 0 (sS r 30) r) :
    CM X w0 m bX11_check mX11_check [vJ a1] r (pI A) := by
  intro w hW
  refine Ct.of (Q := qM w0 m (pI A)) (lv := [(0, vR m), (1, vJ a1)]) rfl (Nat.le_of_ble_eq_true rfl) rfl ?_
  refine e_iconst (pc := 0) (v := 0) dX11_check_0 (by decide) ?_
  refine e_istore_n (pc := 1) (i := 3) (lv' := [(0, vR m), (1, vJ a1), (3, vI 0)]) dX11_check_1 rfl (by decide) rfl ?_
  refine e_aload_n (pc := 2) (i := 0) dX11_check_2 rfl rfl ?_
  refine n_getS (pc := 3) hS hW 30 dX11_check_3 fRX11_169 rfl ?_
  refine e_istore (pc := 6) (i := 4) (lv' := [(0, vR m), (1, vJ a1), (3, vI 0), (4, vI (sS r 30))]) dX11_check_6 (by decide) rfl ?_
  exact hv w hW
set_option maxRecDepth 100000 in
set_option maxHeartbeats 4000000 in
theorem pX11_kind (X : Cx) (w0 : Wd) (m : Nat) (hS : Sh w0 m) (A : Int32 → Rs → Prop) (a1 : Int32) (a2 : Int32) (r : Rs)
    (hv : CM X w0 m bX11_isEntry mX11_isEntry [vI a1] r (pI fun x1 r3 => ((¬ x1 = 0) → vp_in a1 301 ∧ (a2 = 0 → vp_in a1 301 ∧ A (rI r3 3 a1.toNatClampNeg) r3) ∧ (a2 = 1 → vp_in a1 301 ∧ A (rI r3 4 a1.toNatClampNeg) r3) ∧ (a2 = 2 → A (rI r3 5 a1.toNatClampNeg) r3) ∧ (a2 = 3 → vp_in a1 301 ∧ A (rI r3 6 a1.toNatClampNeg) r3) ∧ (a2 = 4 → vp_in a1 301 ∧ A (rI r3 7 a1.toNatClampNeg) r3) ∧ (a2 = 5 → CM X w0 m bX11_livesNow mX11_livesNow [vI a1] r3 (pI fun x16 r18 => ((x16 = 0) → A 0 r18) ∧ ((¬ x16 = 0) → A 1 r18))) ∧ (a2 = 6 → vp_in (rI r3 5 a1.toNatClampNeg) 301 ∧ A (rI r3 13 (rI r3 5 a1.toNatClampNeg).toNatClampNeg) r3) ∧ (a2 = 7 → vp_in (rI r3 5 a1.toNatClampNeg) 301 ∧ A (rI r3 14 (rI r3 5 a1.toNatClampNeg).toNatClampNeg) r3) ∧ (a2 = 8 → vp_in a1 301 ∧ (((rI r3 9 a1.toNatClampNeg) = 0) → A 0 r3) ∧ ((¬ (rI r3 9 a1.toNatClampNeg) = 0) → A 2 r3)) ∧ (a2 = 9 → vp_in a1 301 ∧ vp_in a1 301 ∧ A ((rI r3 24 a1.toNatClampNeg) + (rI r3 25 a1.toNatClampNeg)) r3) ∧ (¬ a2 = 0 → ¬ a2 = 1 → ¬ a2 = 2 → ¬ a2 = 3 → ¬ a2 = 4 → ¬ a2 = 5 → ¬ a2 = 6 → ¬ a2 = 7 → ¬ a2 = 8 → ¬ a2 = 9 → A (-1) r3)) ∧ ((x1 = 0) → A (-1) r3))) :
    CM X w0 m bX11_kind mX11_kind [vI a1, vI a2] r (pI A) := by
  intro w hW
  refine Ct.of (Q := qM w0 m (pI A)) (lv := [(0, vR m), (1, vI a1), (2, vI a2)]) rfl (Nat.le_of_ble_eq_true rfl) rfl ?_
  refine e_aload_n (pc := 0) (i := 0) dX11_kind_0 rfl rfl ?_
  refine e_iload_n (pc := 1) (i := 1) dX11_kind_1 rfl rfl ?_
  refine e_callV (pc := 2) (ci := 11) (st := []) (rc' := 0) (rs' := 0) (B' := bX11_isEntry) [vI a1] dX11_kind_2 vRX11_224 kX11_isEntry (by decide) rfl (hW.K hS) rfl rfl (Nat.le_of_ble_eq_true rfl) ⟨Nat.le_of_ble_eq_true rfl, Nat.le_of_ble_eq_true rfl⟩ rfl rfl (hv w hW) (fun zx1 w2 hq => ?_)
  obtain ⟨r3, hw2, x1, ex1, hv⟩ := hq
  subst ex1
  show EJ X mX11_kind _ 0 0 _ _ (vI x1 :: []) w2
  refine e_if_ne (pc := 5) (tgt := 10) dX11_kind_5 (by decide) (fun h4 => ?_) (fun h4 => ?_)
  · replace hv := hv.1 h4
    refine e_aload_n (pc := 10) (i := 0) dX11_kind_10 rfl rfl ?_
    refine n_get (pc := 11) hS hw2 5 dX11_kind_11 fRX11_23 rfl ?_
    refine e_iload_n (pc := 14) (i := 1) dX11_kind_14 rfl rfl ?_
    have hi5 : vp_in a1 301 := hv.1
    replace hv := hv.2
    refine n_iald (pc := 15) (wa := w2) hS hw2 5 dX11_kind_15 (by decide) rfl hi5 rfl ?_
    refine e_istore_n (pc := 16) (i := 3) (lv' := [(0, vR m), (1, vI a1), (2, vI a2), (3, vI (rI r3 5 a1.toNatClampNeg))]) dX11_kind_16 rfl (by decide) rfl ?_
    refine e_iload_n (pc := 17) (i := 2) dX11_kind_17 rfl rfl ?_
    by_cases h6 : a2 = 0
    · replace hv := hv.1 h6
      refine e_tableK (pc := 18) (tgt := 72) (c := 0) (off := 54) dX11_kind_18 h6 (by decide) (by decide) (by decide) (by decide) ?_
      refine e_aload_n (pc := 72) (i := 0) dX11_kind_72 rfl rfl ?_
      refine n_get (pc := 73) hS hw2 3 dX11_kind_73 fRX11_17 rfl ?_
      refine e_iload_n (pc := 76) (i := 1) dX11_kind_76 rfl rfl ?_
      have hi7 : vp_in a1 301 := hv.1
      replace hv := hv.2
      refine n_iald (pc := 77) (wa := w2) hS hw2 3 dX11_kind_77 (by decide) rfl hi7 rfl ?_
      exact e_ireturn (pc := 78) dX11_kind_78 rfl ⟨r3, hw2, _, rfl, hv⟩
    replace hv := hv.2
    by_cases h8 : a2 = 1
    · replace hv := hv.1 h8
      refine e_tableK (pc := 18) (tgt := 79) (c := 1) (off := 61) dX11_kind_18 h8 (by decide) (by decide) (by decide) (by decide) ?_
      refine e_aload_n (pc := 79) (i := 0) dX11_kind_79 rfl rfl ?_
      refine n_get (pc := 80) hS hw2 4 dX11_kind_80 fRX11_20 rfl ?_
      refine e_iload_n (pc := 83) (i := 1) dX11_kind_83 rfl rfl ?_
      have hi9 : vp_in a1 301 := hv.1
      replace hv := hv.2
      refine n_iald (pc := 84) (wa := w2) hS hw2 4 dX11_kind_84 (by decide) rfl hi9 rfl ?_
      exact e_ireturn (pc := 85) dX11_kind_85 rfl ⟨r3, hw2, _, rfl, hv⟩
    replace hv := hv.2
    by_cases h10 : a2 = 2
    · replace hv := hv.1 h10
      refine e_tableK (pc := 18) (tgt := 86) (c := 2) (off := 68) dX11_kind_18 h10 (by decide) (by decide) (by decide) (by decide) ?_
      refine e_iload_n (pc := 86) (i := 3) dX11_kind_86 rfl rfl ?_
      exact e_ireturn (pc := 87) dX11_kind_87 rfl ⟨r3, hw2, _, rfl, hv⟩
    replace hv := hv.2
    by_cases h11 : a2 = 3
    · replace hv := hv.1 h11
      refine e_tableK (pc := 18) (tgt := 88) (c := 3) (off := 70) dX11_kind_18 h11 (by decide) (by decide) (by decide) (by decide) ?_
      refine e_aload_n (pc := 88) (i := 0) dX11_kind_88 rfl rfl ?_
      refine n_get (pc := 89) hS hw2 6 dX11_kind_89 fRX11_26 rfl ?_
      refine e_iload_n (pc := 92) (i := 1) dX11_kind_92 rfl rfl ?_
      have hi12 : vp_in a1 301 := hv.1
      replace hv := hv.2
      refine n_iald (pc := 93) (wa := w2) hS hw2 6 dX11_kind_93 (by decide) rfl hi12 rfl ?_
      exact e_ireturn (pc := 94) dX11_kind_94 rfl ⟨r3, hw2, _, rfl, hv⟩
    replace hv := hv.2
    by_cases h13 : a2 = 4
    · replace hv := hv.1 h13
      refine e_tableK (pc := 18) (tgt := 95) (c := 4) (off := 77) dX11_kind_18 h13 (by decide) (by decide) (by decide) (by decide) ?_
      refine e_aload_n (pc := 95) (i := 0) dX11_kind_95 rfl rfl ?_
      refine n_get (pc := 96) hS hw2 7 dX11_kind_96 fRX11_29 rfl ?_
      refine e_iload_n (pc := 99) (i := 1) dX11_kind_99 rfl rfl ?_
      have hi14 : vp_in a1 301 := hv.1
      replace hv := hv.2
      refine n_iald (pc := 100) (wa := w2) hS hw2 7 dX11_kind_100 (by decide) rfl hi14 rfl ?_
      exact e_ireturn (pc := 101) dX11_kind_101 rfl ⟨r3, hw2, _, rfl, hv⟩
    replace hv := hv.2
    by_cases h15 : a2 = 5
    · replace hv := hv.1 h15
      refine e_tableK (pc := 18) (tgt := 102) (c := 5) (off := 84) dX11_kind_18 h15 (by decide) (by decide) (by decide) (by decide) ?_
      refine e_aload_n (pc := 102) (i := 0) dX11_kind_102 rfl rfl ?_
      refine e_iload_n (pc := 103) (i := 1) dX11_kind_103 rfl rfl ?_
      refine e_callV (pc := 104) (ci := 11) (st := []) (rc' := 0) (rs' := 0) (B' := bX11_livesNow) [vI a1] dX11_kind_104 vRX11_260 kX11_livesNow (by decide) rfl (hw2.K hS) rfl rfl (Nat.le_of_ble_eq_true rfl) ⟨Nat.le_of_ble_eq_true rfl, Nat.le_of_ble_eq_true rfl⟩ rfl rfl (hv w2 hw2) (fun zx16 w17 hq => ?_)
      obtain ⟨r18, hw17, x16, ex16, hv⟩ := hq
      subst ex16
      show EJ X mX11_kind _ 0 0 _ _ (vI x16 :: []) w17
      refine e_if_eq (pc := 107) (tgt := 114) dX11_kind_107 (by decide) (fun h19 => ?_) (fun h19 => ?_)
      · replace hv := hv.1 h19
        refine e_iconst (pc := 114) (v := 0) dX11_kind_114 (by decide) ?_
        exact e_ireturn (pc := 115) dX11_kind_115 rfl ⟨r18, hw17, _, rfl, hv⟩
      · replace hv := hv.2 h19
        refine e_iconst (pc := 110) (v := 1) dX11_kind_110 (by decide) ?_
        refine e_goto (pc := 111) (tgt := 115) dX11_kind_111 (by decide) ?_
        exact e_ireturn (pc := 115) dX11_kind_115 rfl ⟨r18, hw17, _, rfl, hv⟩
    replace hv := hv.2
    by_cases h20 : a2 = 6
    · replace hv := hv.1 h20
      refine e_tableK (pc := 18) (tgt := 116) (c := 6) (off := 98) dX11_kind_18 h20 (by decide) (by decide) (by decide) (by decide) ?_
      refine e_aload_n (pc := 116) (i := 0) dX11_kind_116 rfl rfl ?_
      refine n_get (pc := 117) hS hw2 13 dX11_kind_117 fRX11_48 rfl ?_
      refine e_iload_n (pc := 120) (i := 3) dX11_kind_120 rfl rfl ?_
      have hi21 : vp_in (rI r3 5 a1.toNatClampNeg) 301 := hv.1
      replace hv := hv.2
      refine n_iald (pc := 121) (wa := w2) hS hw2 13 dX11_kind_121 (by decide) rfl hi21 rfl ?_
      exact e_ireturn (pc := 122) dX11_kind_122 rfl ⟨r3, hw2, _, rfl, hv⟩
    replace hv := hv.2
    by_cases h22 : a2 = 7
    · replace hv := hv.1 h22
      refine e_tableK (pc := 18) (tgt := 123) (c := 7) (off := 105) dX11_kind_18 h22 (by decide) (by decide) (by decide) (by decide) ?_
      refine e_aload_n (pc := 123) (i := 0) dX11_kind_123 rfl rfl ?_
      refine n_get (pc := 124) hS hw2 14 dX11_kind_124 fRX11_51 rfl ?_
      refine e_iload_n (pc := 127) (i := 3) dX11_kind_127 rfl rfl ?_
      have hi23 : vp_in (rI r3 5 a1.toNatClampNeg) 301 := hv.1
      replace hv := hv.2
      refine n_iald (pc := 128) (wa := w2) hS hw2 14 dX11_kind_128 (by decide) rfl hi23 rfl ?_
      exact e_ireturn (pc := 129) dX11_kind_129 rfl ⟨r3, hw2, _, rfl, hv⟩
    replace hv := hv.2
    by_cases h24 : a2 = 8
    · replace hv := hv.1 h24
      refine e_tableK (pc := 18) (tgt := 130) (c := 8) (off := 112) dX11_kind_18 h24 (by decide) (by decide) (by decide) (by decide) ?_
      refine e_aload_n (pc := 130) (i := 0) dX11_kind_130 rfl rfl ?_
      refine n_get (pc := 131) hS hw2 9 dX11_kind_131 fRX11_36 rfl ?_
      refine e_iload_n (pc := 134) (i := 1) dX11_kind_134 rfl rfl ?_
      have hi25 : vp_in a1 301 := hv.1
      replace hv := hv.2
      refine n_iald (pc := 135) (wa := w2) hS hw2 9 dX11_kind_135 (by decide) rfl hi25 rfl ?_
      refine e_if_eq (pc := 136) (tgt := 143) dX11_kind_136 (by decide) (fun h26 => ?_) (fun h26 => ?_)
      · replace hv := hv.1 h26
        refine e_iconst (pc := 143) (v := 0) dX11_kind_143 (by decide) ?_
        exact e_ireturn (pc := 144) dX11_kind_144 rfl ⟨r3, hw2, _, rfl, hv⟩
      · replace hv := hv.2 h26
        refine e_iconst (pc := 139) (v := 2) dX11_kind_139 (by decide) ?_
        refine e_goto (pc := 140) (tgt := 144) dX11_kind_140 (by decide) ?_
        exact e_ireturn (pc := 144) dX11_kind_144 rfl ⟨r3, hw2, _, rfl, hv⟩
    replace hv := hv.2
    by_cases h27 : a2 = 9
    · replace hv := hv.1 h27
      refine e_tableK (pc := 18) (tgt := 145) (c := 9) (off := 127) dX11_kind_18 h27 (by decide) (by decide) (by decide) (by decide) ?_
      refine e_aload_n (pc := 145) (i := 0) dX11_kind_145 rfl rfl ?_
      refine n_get (pc := 146) hS hw2 24 dX11_kind_146 fRX11_81 rfl ?_
      refine e_iload_n (pc := 149) (i := 1) dX11_kind_149 rfl rfl ?_
      have hi28 : vp_in a1 301 := hv.1
      replace hv := hv.2
      refine n_iald (pc := 150) (wa := w2) hS hw2 24 dX11_kind_150 (by decide) rfl hi28 rfl ?_
      refine e_aload_n (pc := 151) (i := 0) dX11_kind_151 rfl rfl ?_
      refine n_get (pc := 152) hS hw2 25 dX11_kind_152 fRX11_84 rfl ?_
      refine e_iload_n (pc := 155) (i := 1) dX11_kind_155 rfl rfl ?_
      have hi29 : vp_in a1 301 := hv.1
      replace hv := hv.2
      refine n_iald (pc := 156) (wa := w2) hS hw2 25 dX11_kind_156 (by decide) rfl hi29 rfl ?_
      refine e_iadd (pc := 157) dX11_kind_157 ?_
      exact e_ireturn (pc := 158) dX11_kind_158 rfl ⟨r3, hw2, _, rfl, hv⟩
    replace hv := hv.2
    replace hv := hv h6 h8 h10 h11 h13 h15 h20 h22 h24 h27
    refine e_tableOut (pc := 18) (tgt := 159) dX11_kind_18 (by have z0 : ¬ a2.toInt = 0 := lv_neT h6 (by decide); have z1 : ¬ a2.toInt = 1 := lv_neT h8 (by decide); have z2 : ¬ a2.toInt = 2 := lv_neT h10 (by decide); have z3 : ¬ a2.toInt = 3 := lv_neT h11 (by decide); have z4 : ¬ a2.toInt = 4 := lv_neT h13 (by decide); have z5 : ¬ a2.toInt = 5 := lv_neT h15 (by decide); have z6 : ¬ a2.toInt = 6 := lv_neT h20 (by decide); have z7 : ¬ a2.toInt = 7 := lv_neT h22 (by decide); have z8 : ¬ a2.toInt = 8 := lv_neT h24 (by decide); have z9 : ¬ a2.toInt = 9 := lv_neT h27 (by decide); omega) (by decide) ?_
    refine e_iconst (pc := 159) (v := (-1)) dX11_kind_159 (by decide) ?_
    exact e_ireturn (pc := 160) dX11_kind_160 rfl ⟨r3, hw2, _, rfl, hv⟩
  · replace hv := hv.2 h4
    refine e_iconst (pc := 8) (v := (-1)) dX11_kind_8 (by decide) ?_
    exact e_ireturn (pc := 9) dX11_kind_9 rfl ⟨r3, hw2, _, rfl, hv⟩
set_option maxRecDepth 100000 in
set_option maxHeartbeats 4000000 in
theorem pX11_sum (X : Cx) (w0 : Wd) (m : Nat) (hS : Sh w0 m) (A : Int64 → Rs → Prop) (a1 : Int32) (r : Rs)
    (hv : CM X w0 m bX11_isEntry mX11_isEntry [vI a1] r (pI fun x1 r3 => ((x1 = 0) → A (-1) r3) ∧ ((¬ x1 = 0) → CM X w0 m bX11_sumBelow mX11_sumBelow [vI a1] r3 (pJ fun x5 r7 => A x5 r7)))) :
    CM X w0 m bX11_sum mX11_sum [vI a1] r (pJ A) := by
  intro w hW
  refine Ct.of (Q := qM w0 m (pJ A)) (lv := [(0, vR m), (1, vI a1)]) rfl (Nat.le_of_ble_eq_true rfl) rfl ?_
  refine e_aload_n (pc := 0) (i := 0) dX11_sum_0 rfl rfl ?_
  refine e_iload_n (pc := 1) (i := 1) dX11_sum_1 rfl rfl ?_
  refine e_callV (pc := 2) (ci := 11) (st := []) (rc' := 0) (rs' := 0) (B' := bX11_isEntry) [vI a1] dX11_sum_2 vRX11_224 kX11_isEntry (by decide) rfl (hW.K hS) rfl rfl (Nat.le_of_ble_eq_true rfl) ⟨Nat.le_of_ble_eq_true rfl, Nat.le_of_ble_eq_true rfl⟩ rfl rfl (hv w hW) (fun zx1 w2 hq => ?_)
  obtain ⟨r3, hw2, x1, ex1, hv⟩ := hq
  subst ex1
  show EJ X mX11_sum _ 0 0 _ _ (vI x1 :: []) w2
  refine e_if_eq (pc := 5) (tgt := 16) dX11_sum_5 (by decide) (fun h4 => ?_) (fun h4 => ?_)
  · replace hv := hv.1 h4
    refine e_ldc2 (pc := 16) (v := -1) dX11_sum_16 (tb_a5 119 (by decide +kernel) rfl) ?_
    exact e_lreturn (pc := 19) dX11_sum_19 rfl ⟨r3, hw2, _, rfl, hv⟩
  · replace hv := hv.2 h4
    refine e_aload_n (pc := 8) (i := 0) dX11_sum_8 rfl rfl ?_
    refine e_iload_n (pc := 9) (i := 1) dX11_sum_9 rfl rfl ?_
    refine e_callV (pc := 10) (ci := 11) (st := []) (rc' := 0) (rs' := 0) (B' := bX11_sumBelow) [vI a1] dX11_sum_10 vRX11_263 kX11_sumBelow (by decide) rfl (hw2.K hS) rfl rfl (Nat.le_of_ble_eq_true rfl) ⟨Nat.le_of_ble_eq_true rfl, Nat.le_of_ble_eq_true rfl⟩ rfl rfl (hv w2 hw2) (fun zx5 w6 hq => ?_)
    obtain ⟨r7, hw6, x5, ex5, hv⟩ := hq
    subst ex5
    show EJ X mX11_sum _ 0 0 _ _ (vJ x5 :: []) w6
    refine e_goto (pc := 13) (tgt := 19) dX11_sum_13 (by decide) ?_
    exact e_lreturn (pc := 19) dX11_sum_19 rfl ⟨r7, hw6, _, rfl, hv⟩
abbrev iX11_parcels_9 (X : Cx) (w0 : Wd) (m : Nat) (A : Int64 → Rs → Prop) (l1 : Int32) (l2 : Int64) (l4 : Int32) (r : Rs) : Prop := ∀ w, Wm w0 m r w → EJ X mX11_parcels (vw X bX11_parcels (qM w0 m (pJ A))) 0 0 9 [(0, vR m), (1, vI l1), (2, vJ l2), (4, vI l4)] [] w
set_option maxRecDepth 100000 in
set_option maxHeartbeats 4000000 in
theorem rX11_parcels_9 (X : Cx) (w0 : Wd) (m : Nat) (hS : Sh w0 m) (A : Int64 → Rs → Prop) (l1 : Int32) (l2 : Int64) (l4 : Int32) (r : Rs)
    (hv : CM X w0 m bX11_isEntry mX11_isEntry [vI l1] r (pI fun x1 r3 => ((x1 = 0) → A l2 r3) ∧ ((¬ x1 = 0) → vp_in l1 301 ∧ vp_in (rI r3 4 l1.toNatClampNeg) 40 ∧ (((rI r3 0 (rI r3 4 l1.toNatClampNeg).toNatClampNeg) ≤ l4) → A l2 r3) ∧ ((¬ (rI r3 0 (rI r3 4 l1.toNatClampNeg).toNatClampNeg) ≤ l4) → CM X w0 m bX11_lies mX11_lies [vI l1, vI l4] r3 (pI fun x8 r10 => ((x8 = 0) → iX11_parcels_9 X w0 m A l1 (l2 ||| 0) (l4 + 1) r10) ∧ ((¬ x8 = 0) → iX11_parcels_9 X w0 m A l1 (l2 ||| ((1 : Int64) <<< (l4.toInt64 &&& 63))) (l4 + 1) r10)))))) :
    iX11_parcels_9 X w0 m A l1 l2 l4 r := by
  intro w hW
  refine e_aload_n (pc := 9) (i := 0) dX11_parcels_9 rfl rfl ?_
  refine e_iload_n (pc := 10) (i := 1) dX11_parcels_10 rfl rfl ?_
  refine e_callV (pc := 11) (ci := 11) (st := []) (rc' := 0) (rs' := 0) (B' := bX11_isEntry) [vI l1] dX11_parcels_11 vRX11_224 kX11_isEntry (by decide) rfl (hW.K hS) rfl rfl (Nat.le_of_ble_eq_true rfl) ⟨Nat.le_of_ble_eq_true rfl, Nat.le_of_ble_eq_true rfl⟩ rfl rfl (hv w hW) (fun zx1 w2 hq => ?_)
  obtain ⟨r3, hw2, x1, ex1, hv⟩ := hq
  subst ex1
  show EJ X mX11_parcels _ 0 0 _ _ (vI x1 :: []) w2
  refine e_if_eq (pc := 14) (tgt := 60) dX11_parcels_14 (by decide) (fun h4 => ?_) (fun h4 => ?_)
  · replace hv := hv.1 h4
    refine e_lload_n (pc := 60) (i := 2) dX11_parcels_60 rfl rfl ?_
    exact e_lreturn (pc := 61) dX11_parcels_61 rfl ⟨r3, hw2, _, rfl, hv⟩
  · replace hv := hv.2 h4
    refine e_iload (pc := 17) (i := 4) dX11_parcels_17 rfl ?_
    refine e_aload_n (pc := 19) (i := 0) dX11_parcels_19 rfl rfl ?_
    refine n_get (pc := 20) hS hw2 0 dX11_parcels_20 fRX11_7 rfl ?_
    refine e_aload_n (pc := 23) (i := 0) dX11_parcels_23 rfl rfl ?_
    refine n_get (pc := 24) hS hw2 4 dX11_parcels_24 fRX11_20 rfl ?_
    refine e_iload_n (pc := 27) (i := 1) dX11_parcels_27 rfl rfl ?_
    have hi5 : vp_in l1 301 := hv.1
    replace hv := hv.2
    refine n_iald (pc := 28) (wa := w2) hS hw2 4 dX11_parcels_28 (by decide) rfl hi5 rfl ?_
    have hi6 : vp_in (rI r3 4 l1.toNatClampNeg) 40 := hv.1
    replace hv := hv.2
    refine n_iald (pc := 29) (wa := w2) hS hw2 0 dX11_parcels_29 (by decide) rfl hi6 rfl ?_
    refine e_icmp_ge (pc := 30) (tgt := 60) dX11_parcels_30 (by decide) (fun h7 => ?_) (fun h7 => ?_)
    · replace hv := hv.1 h7
      refine e_lload_n (pc := 60) (i := 2) dX11_parcels_60 rfl rfl ?_
      exact e_lreturn (pc := 61) dX11_parcels_61 rfl ⟨r3, hw2, _, rfl, hv⟩
    · replace hv := hv.2 h7
      refine e_lload_n (pc := 33) (i := 2) dX11_parcels_33 rfl rfl ?_
      refine e_aload_n (pc := 34) (i := 0) dX11_parcels_34 rfl rfl ?_
      refine e_iload_n (pc := 35) (i := 1) dX11_parcels_35 rfl rfl ?_
      refine e_iload (pc := 36) (i := 4) dX11_parcels_36 rfl ?_
      refine e_callV (pc := 38) (ci := 11) (st := [vJ l2]) (rc' := 0) (rs' := 0) (B' := bX11_lies) [vI l1, vI l4] dX11_parcels_38 vRX11_293 kX11_lies (by decide) rfl (hw2.K hS) rfl rfl (Nat.le_of_ble_eq_true rfl) ⟨Nat.le_of_ble_eq_true rfl, Nat.le_of_ble_eq_true rfl⟩ rfl rfl (hv w2 hw2) (fun zx8 w9 hq => ?_)
      obtain ⟨r10, hw9, x8, ex8, hv⟩ := hq
      subst ex8
      show EJ X mX11_parcels _ 0 0 _ _ (vI x8 :: [vJ l2]) w9
      refine e_if_eq (pc := 41) (tgt := 51) dX11_parcels_41 (by decide) (fun h11 => ?_) (fun h11 => ?_)
      · replace hv := hv.1 h11
        refine e_lconst (pc := 51) (v := 0) dX11_parcels_51 (by decide) ?_
        refine e_lor (pc := 52) dX11_parcels_52 ?_
        refine e_lstore_n (pc := 53) (i := 2) (lv' := [(0, vR m), (1, vI l1), (2, vJ (l2 ||| 0)), (4, vI l4)]) dX11_parcels_53 rfl (by decide) rfl ?_
        refine e_iinc (pc := 54) (v := l4 + 1) (lv' := [(0, vR m), (1, vI l1), (2, vJ (l2 ||| 0)), (4, vI (l4 + 1))]) dX11_parcels_54 rfl rfl (by decide) rfl ?_
        refine e_goto (pc := 57) (tgt := 9) dX11_parcels_57 (by decide) ?_
        exact hv w9 hw9
      · replace hv := hv.2 h11
        refine e_lconst (pc := 44) (v := 1) dX11_parcels_44 (by decide) ?_
        refine e_iload (pc := 45) (i := 4) dX11_parcels_45 rfl ?_
        refine e_lshl (pc := 47) dX11_parcels_47 ?_
        refine e_goto (pc := 48) (tgt := 52) dX11_parcels_48 (by decide) ?_
        refine e_lor (pc := 52) dX11_parcels_52 ?_
        refine e_lstore_n (pc := 53) (i := 2) (lv' := [(0, vR m), (1, vI l1), (2, vJ (l2 ||| ((1 : Int64) <<< (l4.toInt64 &&& 63)))), (4, vI l4)]) dX11_parcels_53 rfl (by decide) rfl ?_
        refine e_iinc (pc := 54) (v := l4 + 1) (lv' := [(0, vR m), (1, vI l1), (2, vJ (l2 ||| ((1 : Int64) <<< (l4.toInt64 &&& 63)))), (4, vI (l4 + 1))]) dX11_parcels_54 rfl rfl (by decide) rfl ?_
        refine e_goto (pc := 57) (tgt := 9) dX11_parcels_57 (by decide) ?_
        exact hv w9 hw9
set_option maxRecDepth 100000 in
set_option maxHeartbeats 4000000 in
theorem pX11_parcels (X : Cx) (w0 : Wd) (m : Nat) (hS : Sh w0 m) (A : Int64 → Rs → Prop) (a1 : Int32) (r : Rs)
    (hv : CM X w0 m bX11_now mX11_now [] r (pV fun r3 => iX11_parcels_9 X w0 m A a1 0 0 r3)) :
    CM X w0 m bX11_parcels mX11_parcels [vI a1] r (pJ A) := by
  intro w hW
  refine Ct.of (Q := qM w0 m (pJ A)) (lv := [(0, vR m), (1, vI a1)]) rfl (Nat.le_of_ble_eq_true rfl) rfl ?_
  refine e_lconst (pc := 0) (v := 0) dX11_parcels_0 (by decide) ?_
  refine e_lstore_n (pc := 1) (i := 2) (lv' := [(0, vR m), (1, vI a1), (2, vJ 0)]) dX11_parcels_1 rfl (by decide) rfl ?_
  refine e_aload_n (pc := 2) (i := 0) dX11_parcels_2 rfl rfl ?_
  refine e_callV (pc := 3) (ci := 11) (st := []) (rc' := 0) (rs' := 0) (B' := bX11_now) [] dX11_parcels_3 vRX11_257 kX11_now (by decide) rfl (hW.K hS) rfl rfl (Nat.le_of_ble_eq_true rfl) ⟨Nat.le_of_ble_eq_true rfl, Nat.le_of_ble_eq_true rfl⟩ rfl rfl (hv w hW) (fun zx1 w2 hq => ?_)
  obtain ⟨r3, hw2, ex1, hv⟩ := hq
  subst ex1
  show EJ X mX11_parcels _ 0 0 _ _ [] w2
  refine e_iconst (pc := 6) (v := 0) dX11_parcels_6 (by decide) ?_
  refine e_istore (pc := 7) (i := 4) (lv' := [(0, vR m), (1, vI a1), (2, vJ 0), (4, vI 0)]) dX11_parcels_7 (by decide) rfl ?_
  exact hv w2 hw2
set_option maxRecDepth 100000 in
set_option maxHeartbeats 4000000 in
theorem pX11_status (X : Cx) (w0 : Wd) (m : Nat) (hS : Sh w0 m) (A : Int32 → Rs → Prop)  (r : Rs)
    (hv : A (sS r 41) r) :
    CM X w0 m bX11_status mX11_status [] r (pI A) := by
  intro w hW
  refine Ct.of (Q := qM w0 m (pI A)) (lv := [(0, vR m)]) rfl (Nat.le_of_ble_eq_true rfl) rfl ?_
  refine e_aload_n (pc := 0) (i := 0) dX11_status_0 rfl rfl ?_
  refine n_getS (pc := 1) hS hW 41 dX11_status_1 fRX11_163 rfl ?_
  exact e_ireturn (pc := 4) dX11_status_4 rfl ⟨r, hW, _, rfl, hv⟩
set_option maxRecDepth 100000 in
set_option maxHeartbeats 4000000 in
theorem pX11_count (X : Cx) (w0 : Wd) (m : Nat) (hS : Sh w0 m) (A : Int32 → Rs → Prop) (a1 : Int32) (r : Rs)
    (hv : (a1 = 0 → A (sS r 39) r) ∧ (a1 = 1 → A (sS r 2) r) ∧ (a1 = 2 → A (sS r 30) r) ∧ (a1 = 3 → A (sS r 38) r) ∧ (a1 = 4 → CM X w0 m bX11_dateNow mX11_dateNow [] r (pI fun x6 r8 => A x6 r8)) ∧ (a1 = 5 → A (sS r 43) r) ∧ (a1 = 6 → A (sS r 44) r) ∧ (¬ a1 = 0 → ¬ a1 = 1 → ¬ a1 = 2 → ¬ a1 = 3 → ¬ a1 = 4 → ¬ a1 = 5 → ¬ a1 = 6 → A (-1) r)) :
    CM X w0 m bX11_count mX11_count [vI a1] r (pI A) := by
  intro w hW
  refine Ct.of (Q := qM w0 m (pI A)) (lv := [(0, vR m), (1, vI a1)]) rfl (Nat.le_of_ble_eq_true rfl) rfl ?_
  refine e_iload_n (pc := 0) (i := 1) dX11_count_0 rfl rfl ?_
  by_cases h1 : a1 = 0
  · replace hv := hv.1 h1
    refine e_tableK (pc := 1) (tgt := 44) (c := 0) (off := 43) dX11_count_1 h1 (by decide) (by decide) (by decide) (by decide) ?_
    refine e_aload_n (pc := 44) (i := 0) dX11_count_44 rfl rfl ?_
    refine n_getS (pc := 45) hS hW 39 dX11_count_45 fRX11_166 rfl ?_
    exact e_ireturn (pc := 48) dX11_count_48 rfl ⟨r, hW, _, rfl, hv⟩
  replace hv := hv.2
  by_cases h2 : a1 = 1
  · replace hv := hv.1 h2
    refine e_tableK (pc := 1) (tgt := 49) (c := 1) (off := 48) dX11_count_1 h2 (by decide) (by decide) (by decide) (by decide) ?_
    refine e_aload_n (pc := 49) (i := 0) dX11_count_49 rfl rfl ?_
    refine n_getS (pc := 50) hS hW 2 dX11_count_50 fRX11_172 rfl ?_
    exact e_ireturn (pc := 53) dX11_count_53 rfl ⟨r, hW, _, rfl, hv⟩
  replace hv := hv.2
  by_cases h3 : a1 = 2
  · replace hv := hv.1 h3
    refine e_tableK (pc := 1) (tgt := 54) (c := 2) (off := 53) dX11_count_1 h3 (by decide) (by decide) (by decide) (by decide) ?_
    refine e_aload_n (pc := 54) (i := 0) dX11_count_54 rfl rfl ?_
    refine n_getS (pc := 55) hS hW 30 dX11_count_55 fRX11_169 rfl ?_
    exact e_ireturn (pc := 58) dX11_count_58 rfl ⟨r, hW, _, rfl, hv⟩
  replace hv := hv.2
  by_cases h4 : a1 = 3
  · replace hv := hv.1 h4
    refine e_tableK (pc := 1) (tgt := 59) (c := 3) (off := 58) dX11_count_1 h4 (by decide) (by decide) (by decide) (by decide) ?_
    refine e_aload_n (pc := 59) (i := 0) dX11_count_59 rfl rfl ?_
    refine n_getS (pc := 60) hS hW 38 dX11_count_60 fRX11_275 rfl ?_
    exact e_ireturn (pc := 63) dX11_count_63 rfl ⟨r, hW, _, rfl, hv⟩
  replace hv := hv.2
  by_cases h5 : a1 = 4
  · replace hv := hv.1 h5
    refine e_tableK (pc := 1) (tgt := 64) (c := 4) (off := 63) dX11_count_1 h5 (by decide) (by decide) (by decide) (by decide) ?_
    refine e_aload_n (pc := 64) (i := 0) dX11_count_64 rfl rfl ?_
    refine e_callV (pc := 65) (ci := 11) (st := []) (rc' := 0) (rs' := 0) (B' := bX11_dateNow) [] dX11_count_65 vRX11_252 kX11_dateNow (by decide) rfl (hW.K hS) rfl rfl (Nat.le_of_ble_eq_true rfl) ⟨Nat.le_of_ble_eq_true rfl, Nat.le_of_ble_eq_true rfl⟩ rfl rfl (hv w hW) (fun zx6 w7 hq => ?_)
    obtain ⟨r8, hw7, x6, ex6, hv⟩ := hq
    subst ex6
    show EJ X mX11_count _ 0 0 _ _ (vI x6 :: []) w7
    exact e_ireturn (pc := 68) dX11_count_68 rfl ⟨r8, hw7, _, rfl, hv⟩
  replace hv := hv.2
  by_cases h9 : a1 = 5
  · replace hv := hv.1 h9
    refine e_tableK (pc := 1) (tgt := 69) (c := 5) (off := 68) dX11_count_1 h9 (by decide) (by decide) (by decide) (by decide) ?_
    refine e_aload_n (pc := 69) (i := 0) dX11_count_69 rfl rfl ?_
    refine n_getS (pc := 70) hS hW 43 dX11_count_70 fRX11_362 rfl ?_
    exact e_ireturn (pc := 73) dX11_count_73 rfl ⟨r, hW, _, rfl, hv⟩
  replace hv := hv.2
  by_cases h10 : a1 = 6
  · replace hv := hv.1 h10
    refine e_tableK (pc := 1) (tgt := 74) (c := 6) (off := 73) dX11_count_1 h10 (by decide) (by decide) (by decide) (by decide) ?_
    refine e_aload_n (pc := 74) (i := 0) dX11_count_74 rfl rfl ?_
    refine n_getS (pc := 75) hS hW 44 dX11_count_75 fRX11_290 rfl ?_
    exact e_ireturn (pc := 78) dX11_count_78 rfl ⟨r, hW, _, rfl, hv⟩
  replace hv := hv.2
  replace hv := hv h1 h2 h3 h4 h5 h9 h10
  refine e_tableOut (pc := 1) (tgt := 79) dX11_count_1 (by have z0 : ¬ a1.toInt = 0 := lv_neT h1 (by decide); have z1 : ¬ a1.toInt = 1 := lv_neT h2 (by decide); have z2 : ¬ a1.toInt = 2 := lv_neT h3 (by decide); have z3 : ¬ a1.toInt = 3 := lv_neT h4 (by decide); have z4 : ¬ a1.toInt = 4 := lv_neT h5 (by decide); have z5 : ¬ a1.toInt = 5 := lv_neT h9 (by decide); have z6 : ¬ a1.toInt = 6 := lv_neT h10 (by decide); omega) (by decide) ?_
  refine e_iconst (pc := 79) (v := (-1)) dX11_count_79 (by decide) ?_
  exact e_ireturn (pc := 80) dX11_count_80 rfl ⟨r, hW, _, rfl, hv⟩
