set_option maxRecDepth 100000 in
set_option maxHeartbeats 4000000 in
theorem oX11_init (X : Cx) (A : Wd → Prop) (a0 : Nat) (w : Wd)
    (hv : wK w a0 ≠ 0 ∧ ∀ q2 : Nat, wK w q2 = 0 → q2 ≠ 0 → ∀ w3 : Wd, w3 = nA w 13 q2 40 → wK w3 a0 = 12 ∧ ∀ w5 : Wd, w5 = sR w3 11 0 a0 q2 → ∀ q6 : Nat, wK w5 q6 = 0 → q6 ≠ 0 → ∀ w7 : Wd, w7 = nA w5 15 q6 2400 → ∀ w9 : Wd, w9 = sR w7 11 1 a0 q6 → ∀ q10 : Nat, wK w9 q10 = 0 → q10 ≠ 0 → ∀ w11 : Wd, w11 = nA w9 13 q10 301 → ∀ w13 : Wd, w13 = sR w11 11 3 a0 q10 → ∀ q14 : Nat, wK w13 q14 = 0 → q14 ≠ 0 → ∀ w15 : Wd, w15 = nA w13 13 q14 301 → ∀ w17 : Wd, w17 = sR w15 11 4 a0 q14 → ∀ q18 : Nat, wK w17 q18 = 0 → q18 ≠ 0 → ∀ w19 : Wd, w19 = nA w17 13 q18 301 → ∀ w21 : Wd, w21 = sR w19 11 5 a0 q18 → ∀ q22 : Nat, wK w21 q22 = 0 → q22 ≠ 0 → ∀ w23 : Wd, w23 = nA w21 13 q22 301 → ∀ w25 : Wd, w25 = sR w23 11 6 a0 q22 → ∀ q26 : Nat, wK w25 q26 = 0 → q26 ≠ 0 → ∀ w27 : Wd, w27 = nA w25 13 q26 301 → ∀ w29 : Wd, w29 = sR w27 11 7 a0 q26 → ∀ q30 : Nat, wK w29 q30 = 0 → q30 ≠ 0 → ∀ w31 : Wd, w31 = nA w29 14 q30 301 → ∀ w33 : Wd, w33 = sR w31 11 8 a0 q30 → ∀ q34 : Nat, wK w33 q34 = 0 → q34 ≠ 0 → ∀ w35 : Wd, w35 = nA w33 13 q34 301 → ∀ w37 : Wd, w37 = sR w35 11 9 a0 q34 → ∀ q38 : Nat, wK w37 q38 = 0 → q38 ≠ 0 → ∀ w39 : Wd, w39 = nA w37 14 q38 301 → ∀ w41 : Wd, w41 = sR w39 11 10 a0 q38 → ∀ q42 : Nat, wK w41 q42 = 0 → q42 ≠ 0 → ∀ w43 : Wd, w43 = nA w41 13 q42 301 → ∀ w45 : Wd, w45 = sR w43 11 11 a0 q42 → ∀ q46 : Nat, wK w45 q46 = 0 → q46 ≠ 0 → ∀ w47 : Wd, w47 = nA w45 14 q46 301 → ∀ w49 : Wd, w49 = sR w47 11 12 a0 q46 → ∀ q50 : Nat, wK w49 q50 = 0 → q50 ≠ 0 → ∀ w51 : Wd, w51 = nA w49 13 q50 301 → ∀ w53 : Wd, w53 = sR w51 11 13 a0 q50 → ∀ q54 : Nat, wK w53 q54 = 0 → q54 ≠ 0 → ∀ w55 : Wd, w55 = nA w53 13 q54 301 → ∀ w57 : Wd, w57 = sR w55 11 14 a0 q54 → ∀ q58 : Nat, wK w57 q58 = 0 → q58 ≠ 0 → ∀ w59 : Wd, w59 = nA w57 13 q58 301 → ∀ w61 : Wd, w61 = sR w59 11 15 a0 q58 → ∀ q62 : Nat, wK w61 q62 = 0 → q62 ≠ 0 → ∀ w63 : Wd, w63 = nA w61 13 q62 301 → ∀ w65 : Wd, w65 = sR w63 11 16 a0 q62 → ∀ q66 : Nat, wK w65 q66 = 0 → q66 ≠ 0 → ∀ w67 : Wd, w67 = nA w65 13 q66 301 → ∀ w69 : Wd, w69 = sR w67 11 17 a0 q66 → ∀ q70 : Nat, wK w69 q70 = 0 → q70 ≠ 0 → ∀ w71 : Wd, w71 = nA w69 15 q70 301 → ∀ w73 : Wd, w73 = sR w71 11 18 a0 q70 → ∀ q74 : Nat, wK w73 q74 = 0 → q74 ≠ 0 → ∀ w75 : Wd, w75 = nA w73 15 q74 301 → ∀ w77 : Wd, w77 = sR w75 11 19 a0 q74 → ∀ q78 : Nat, wK w77 q78 = 0 → q78 ≠ 0 → ∀ w79 : Wd, w79 = nA w77 13 q78 301 → ∀ w81 : Wd, w81 = sR w79 11 20 a0 q78 → ∀ q82 : Nat, wK w81 q82 = 0 → q82 ≠ 0 → ∀ w83 : Wd, w83 = nA w81 13 q82 301 → ∀ w85 : Wd, w85 = sR w83 11 21 a0 q82 → ∀ q86 : Nat, wK w85 q86 = 0 → q86 ≠ 0 → ∀ w87 : Wd, w87 = nA w85 13 q86 301 → ∀ w89 : Wd, w89 = sR w87 11 22 a0 q86 → ∀ q90 : Nat, wK w89 q90 = 0 → q90 ≠ 0 → ∀ w91 : Wd, w91 = nA w89 13 q90 301 → ∀ w93 : Wd, w93 = sR w91 11 23 a0 q90 → ∀ q94 : Nat, wK w93 q94 = 0 → q94 ≠ 0 → ∀ w95 : Wd, w95 = nA w93 13 q94 301 → ∀ w97 : Wd, w97 = sR w95 11 24 a0 q94 → ∀ q98 : Nat, wK w97 q98 = 0 → q98 ≠ 0 → ∀ w99 : Wd, w99 = nA w97 13 q98 301 → ∀ w101 : Wd, w101 = sR w99 11 25 a0 q98 → ∀ q102 : Nat, wK w101 q102 = 0 → q102 ≠ 0 → ∀ w103 : Wd, w103 = nA w101 13 q102 301 → ∀ w105 : Wd, w105 = sR w103 11 26 a0 q102 → ∀ q106 : Nat, wK w105 q106 = 0 → q106 ≠ 0 → ∀ w107 : Wd, w107 = nA w105 13 q106 301 → ∀ w109 : Wd, w109 = sR w107 11 27 a0 q106 → ∀ q110 : Nat, wK w109 q110 = 0 → q110 ≠ 0 → ∀ w111 : Wd, w111 = nA w109 13 q110 18060 → ∀ w113 : Wd, w113 = sR w111 11 28 a0 q110 → ∀ q114 : Nat, wK w113 q114 = 0 → q114 ≠ 0 → ∀ w115 : Wd, w115 = nA w113 13 q114 18060 → ∀ w117 : Wd, w117 = sR w115 11 29 a0 q114 → ∀ q118 : Nat, wK w117 q118 = 0 → q118 ≠ 0 → ∀ w119 : Wd, w119 = nA w117 13 q118 101 → ∀ w121 : Wd, w121 = sR w119 11 31 a0 q118 → ∀ q122 : Nat, wK w121 q122 = 0 → q122 ≠ 0 → ∀ w123 : Wd, w123 = nA w121 13 q122 101 → ∀ w125 : Wd, w125 = sR w123 11 32 a0 q122 → ∀ q126 : Nat, wK w125 q126 = 0 → q126 ≠ 0 → ∀ w127 : Wd, w127 = nA w125 14 q126 101 → ∀ w129 : Wd, w129 = sR w127 11 33 a0 q126 → ∀ q130 : Nat, wK w129 q130 = 0 → q130 ≠ 0 → ∀ w131 : Wd, w131 = nA w129 13 q130 101 → ∀ w133 : Wd, w133 = sR w131 11 34 a0 q130 → ∀ q134 : Nat, wK w133 q134 = 0 → q134 ≠ 0 → ∀ w135 : Wd, w135 = nA w133 13 q134 101 → ∀ w137 : Wd, w137 = sR w135 11 35 a0 q134 → ∀ q138 : Nat, wK w137 q138 = 0 → q138 ≠ 0 → ∀ w139 : Wd, w139 = nA w137 13 q138 101 → ∀ w141 : Wd, w141 = sR w139 11 36 a0 q138 → ∀ q142 : Nat, wK w141 q142 = 0 → q142 ≠ 0 → ∀ w143 : Wd, w143 = nA w141 13 q142 101 → ∀ w145 : Wd, w145 = sR w143 11 37 a0 q142 → ∀ w147 : Wd, w147 = sI w145 11 40 a0 (-1) → ∀ q148 : Nat, wK w147 q148 = 0 → q148 ≠ 0 → ∀ w149 : Wd, w149 = nA w147 13 q148 301 → ∀ w151 : Wd, w151 = sR w149 11 47 a0 q148 → ∀ q152 : Nat, wK w151 q152 = 0 → q152 ≠ 0 → ∀ w153 : Wd, w153 = nA w151 14 q152 301 → ∀ w155 : Wd, w155 = sR w153 11 49 a0 q152 → ∀ q156 : Nat, wK w155 q156 = 0 → q156 ≠ 0 → ∀ w157 : Wd, w157 = nA w155 13 q156 301 → ∀ w159 : Wd, w159 = sR w157 11 50 a0 q156 → ∀ q160 : Nat, wK w159 q160 = 0 → q160 ≠ 0 → ∀ w161 : Wd, w161 = nA w159 13 q160 301 → ∀ w163 : Wd, w163 = sR w161 11 51 a0 q160 → ∀ q164 : Nat, wK w163 q164 = 0 → q164 ≠ 0 → ∀ w165 : Wd, w165 = nA w163 13 q164 602 → ∀ w167 : Wd, w167 = sR w165 11 53 a0 q164 → ∀ q168 : Nat, wK w167 q168 = 0 → q168 ≠ 0 → ∀ w169 : Wd, w169 = nA w167 15 q168 602 → ∀ w171 : Wd, w171 = sR w169 11 54 a0 q168 → ∀ q172 : Nat, wK w171 q172 = 0 → q172 ≠ 0 → ∀ w173 : Wd, w173 = nA w171 13 q172 301 → ∀ w175 : Wd, w175 = sR w173 11 55 a0 q172 → ∀ q176 : Nat, wK w175 q176 = 0 → q176 ≠ 0 → ∀ w177 : Wd, w177 = nA w175 13 q176 301 → ∀ w179 : Wd, w179 = sR w177 11 56 a0 q176 → ∀ q180 : Nat, wK w179 q180 = 0 → q180 ≠ 0 → ∀ w181 : Wd, w181 = nA w179 14 q180 301 → ∀ w183 : Wd, w183 = sR w181 11 59 a0 q180 → ∀ q184 : Nat, wK w183 q184 = 0 → q184 ≠ 0 → ∀ w185 : Wd, w185 = nA w183 14 q184 301 → ∀ w187 : Wd, w187 = sR w185 11 60 a0 q184 → ∀ q188 : Nat, wK w187 q188 = 0 → q188 ≠ 0 → ∀ w189 : Wd, w189 = nA w187 15 q188 301 → ∀ w191 : Wd, w191 = sR w189 11 61 a0 q188 → ∀ q192 : Nat, wK w191 q192 = 0 → q192 ≠ 0 → ∀ w193 : Wd, w193 = nA w191 14 q192 301 → ∀ w195 : Wd, w195 = sR w193 11 62 a0 q192 → ∀ q196 : Nat, wK w195 q196 = 0 → q196 ≠ 0 → ∀ w197 : Wd, w197 = nA w195 14 q196 301 → ∀ w199 : Wd, w199 = sR w197 11 63 a0 q196 → A w199) :
    Ct X bX11_init mX11_init [vR a0] w (qV A) := by
  refine Ct.of (lv := [(0, vR a0)]) rfl (Nat.le_of_ble_eq_true rfl) rfl ?_
  refine e_aload_n (pc := 0) (i := 0) dX11_init_0 rfl rfl ?_
  have k1 := hv.1
  replace hv := hv.2
  refine e_objInit (pc := 1) dX11_init_1 (tb_a4 152 (by decide +kernel) rfl) k1 (Nat.le_of_ble_eq_true rfl) (Nat.le_of_ble_eq_true rfl) (Nat.le_of_ble_eq_true rfl) ?_
  refine e_aload_n (pc := 4) (i := 0) dX11_init_4 rfl rfl ?_
  refine e_bipush (pc := 5) (v := 40) dX11_init_5 (by decide) ?_
  refine e_newI (pc := 7) (N := 40) (rc' := 48) (rs' := 51267) dX11_init_7 (by decide) (by decide) (by decide) rfl rfl (fun q2 hq2 nq2 => ?_)
  obtain ⟨w3, hw3⟩ : ∃ w3 : Wd, w3 = nA w 13 q2 40 := ⟨_, rfl⟩
  replace hv := hv q2 hq2 nq2 w3 hw3
  rw [← hw3]
  have k4 := hv.1
  replace hv := hv.2
  obtain ⟨w5, hw5⟩ : ∃ w5 : Wd, w5 = sR w3 11 0 a0 q2 := ⟨_, rfl⟩
  replace hv := hv w5 hw5
  refine e_putR (pc := 9) dX11_init_9 fRX11_7 (Or.inr ⟨rfl, rfl, rfl⟩) rfl k4 ?_
  rw [← hw5]
  refine e_aload_n (pc := 12) (i := 0) dX11_init_12 rfl rfl ?_
  refine e_sipush (pc := 13) (v := 2400) dX11_init_13 (by decide) ?_
  refine e_newZ (pc := 16) (N := 2400) (rc' := 47) (rs' := 48867) dX11_init_16 (by decide) (by decide) (by decide) rfl rfl (fun q6 hq6 nq6 => ?_)
  obtain ⟨w7, hw7⟩ : ∃ w7 : Wd, w7 = nA w5 15 q6 2400 := ⟨_, rfl⟩
  replace hv := hv q6 hq6 nq6 w7 hw7
  rw [← hw7]
  have k8 : wK w7 a0 = 12 := (by rw [hw7]; exact nA_old (by rw [hw5]; exact k4) hq6)
  obtain ⟨w9, hw9⟩ : ∃ w9 : Wd, w9 = sR w7 11 1 a0 q6 := ⟨_, rfl⟩
  replace hv := hv w9 hw9
  refine e_putR (pc := 18) dX11_init_18 fRX11_13 (Or.inr ⟨rfl, rfl, rfl⟩) rfl k8 ?_
  rw [← hw9]
  refine e_aload_n (pc := 21) (i := 0) dX11_init_21 rfl rfl ?_
  refine e_sipush (pc := 22) (v := 301) dX11_init_22 (by decide) ?_
  refine e_newI (pc := 25) (N := 301) (rc' := 46) (rs' := 48566) dX11_init_25 (by decide) (by decide) (by decide) rfl rfl (fun q10 hq10 nq10 => ?_)
  obtain ⟨w11, hw11⟩ : ∃ w11 : Wd, w11 = nA w9 13 q10 301 := ⟨_, rfl⟩
  replace hv := hv q10 hq10 nq10 w11 hw11
  rw [← hw11]
  have k12 : wK w11 a0 = 12 := (by rw [hw11]; exact nA_old (by rw [hw9]; exact k8) hq10)
  obtain ⟨w13, hw13⟩ : ∃ w13 : Wd, w13 = sR w11 11 3 a0 q10 := ⟨_, rfl⟩
  replace hv := hv w13 hw13
  refine e_putR (pc := 27) dX11_init_27 fRX11_17 (Or.inr ⟨rfl, rfl, rfl⟩) rfl k12 ?_
  rw [← hw13]
  refine e_aload_n (pc := 30) (i := 0) dX11_init_30 rfl rfl ?_
  refine e_sipush (pc := 31) (v := 301) dX11_init_31 (by decide) ?_
  refine e_newI (pc := 34) (N := 301) (rc' := 45) (rs' := 48265) dX11_init_34 (by decide) (by decide) (by decide) rfl rfl (fun q14 hq14 nq14 => ?_)
  obtain ⟨w15, hw15⟩ : ∃ w15 : Wd, w15 = nA w13 13 q14 301 := ⟨_, rfl⟩
  replace hv := hv q14 hq14 nq14 w15 hw15
  rw [← hw15]
  have k16 : wK w15 a0 = 12 := (by rw [hw15]; exact nA_old (by rw [hw13]; exact k12) hq14)
  obtain ⟨w17, hw17⟩ : ∃ w17 : Wd, w17 = sR w15 11 4 a0 q14 := ⟨_, rfl⟩
  replace hv := hv w17 hw17
  refine e_putR (pc := 36) dX11_init_36 fRX11_20 (Or.inr ⟨rfl, rfl, rfl⟩) rfl k16 ?_
  rw [← hw17]
  refine e_aload_n (pc := 39) (i := 0) dX11_init_39 rfl rfl ?_
  refine e_sipush (pc := 40) (v := 301) dX11_init_40 (by decide) ?_
  refine e_newI (pc := 43) (N := 301) (rc' := 44) (rs' := 47964) dX11_init_43 (by decide) (by decide) (by decide) rfl rfl (fun q18 hq18 nq18 => ?_)
  obtain ⟨w19, hw19⟩ : ∃ w19 : Wd, w19 = nA w17 13 q18 301 := ⟨_, rfl⟩
  replace hv := hv q18 hq18 nq18 w19 hw19
  rw [← hw19]
  have k20 : wK w19 a0 = 12 := (by rw [hw19]; exact nA_old (by rw [hw17]; exact k16) hq18)
  obtain ⟨w21, hw21⟩ : ∃ w21 : Wd, w21 = sR w19 11 5 a0 q18 := ⟨_, rfl⟩
  replace hv := hv w21 hw21
  refine e_putR (pc := 45) dX11_init_45 fRX11_23 (Or.inr ⟨rfl, rfl, rfl⟩) rfl k20 ?_
  rw [← hw21]
  refine e_aload_n (pc := 48) (i := 0) dX11_init_48 rfl rfl ?_
  refine e_sipush (pc := 49) (v := 301) dX11_init_49 (by decide) ?_
  refine e_newI (pc := 52) (N := 301) (rc' := 43) (rs' := 47663) dX11_init_52 (by decide) (by decide) (by decide) rfl rfl (fun q22 hq22 nq22 => ?_)
  obtain ⟨w23, hw23⟩ : ∃ w23 : Wd, w23 = nA w21 13 q22 301 := ⟨_, rfl⟩
  replace hv := hv q22 hq22 nq22 w23 hw23
  rw [← hw23]
  have k24 : wK w23 a0 = 12 := (by rw [hw23]; exact nA_old (by rw [hw21]; exact k20) hq22)
  obtain ⟨w25, hw25⟩ : ∃ w25 : Wd, w25 = sR w23 11 6 a0 q22 := ⟨_, rfl⟩
  replace hv := hv w25 hw25
  refine e_putR (pc := 54) dX11_init_54 fRX11_26 (Or.inr ⟨rfl, rfl, rfl⟩) rfl k24 ?_
  rw [← hw25]
  refine e_aload_n (pc := 57) (i := 0) dX11_init_57 rfl rfl ?_
  refine e_sipush (pc := 58) (v := 301) dX11_init_58 (by decide) ?_
  refine e_newI (pc := 61) (N := 301) (rc' := 42) (rs' := 47362) dX11_init_61 (by decide) (by decide) (by decide) rfl rfl (fun q26 hq26 nq26 => ?_)
  obtain ⟨w27, hw27⟩ : ∃ w27 : Wd, w27 = nA w25 13 q26 301 := ⟨_, rfl⟩
  replace hv := hv q26 hq26 nq26 w27 hw27
  rw [← hw27]
  have k28 : wK w27 a0 = 12 := (by rw [hw27]; exact nA_old (by rw [hw25]; exact k24) hq26)
  obtain ⟨w29, hw29⟩ : ∃ w29 : Wd, w29 = sR w27 11 7 a0 q26 := ⟨_, rfl⟩
  replace hv := hv w29 hw29
  refine e_putR (pc := 63) dX11_init_63 fRX11_29 (Or.inr ⟨rfl, rfl, rfl⟩) rfl k28 ?_
  rw [← hw29]
  refine e_aload_n (pc := 66) (i := 0) dX11_init_66 rfl rfl ?_
  refine e_sipush (pc := 67) (v := 301) dX11_init_67 (by decide) ?_
  refine e_newJ (pc := 70) (N := 301) (rc' := 41) (rs' := 47061) dX11_init_70 (by decide) (by decide) (by decide) rfl rfl (fun q30 hq30 nq30 => ?_)
  obtain ⟨w31, hw31⟩ : ∃ w31 : Wd, w31 = nA w29 14 q30 301 := ⟨_, rfl⟩
  replace hv := hv q30 hq30 nq30 w31 hw31
  rw [← hw31]
  have k32 : wK w31 a0 = 12 := (by rw [hw31]; exact nA_old (by rw [hw29]; exact k28) hq30)
  obtain ⟨w33, hw33⟩ : ∃ w33 : Wd, w33 = sR w31 11 8 a0 q30 := ⟨_, rfl⟩
  replace hv := hv w33 hw33
  refine e_putR (pc := 72) dX11_init_72 fRX11_32 (Or.inr ⟨rfl, rfl, rfl⟩) rfl k32 ?_
  rw [← hw33]
  refine e_aload_n (pc := 75) (i := 0) dX11_init_75 rfl rfl ?_
  refine e_sipush (pc := 76) (v := 301) dX11_init_76 (by decide) ?_
  refine e_newI (pc := 79) (N := 301) (rc' := 40) (rs' := 46760) dX11_init_79 (by decide) (by decide) (by decide) rfl rfl (fun q34 hq34 nq34 => ?_)
  obtain ⟨w35, hw35⟩ : ∃ w35 : Wd, w35 = nA w33 13 q34 301 := ⟨_, rfl⟩
  replace hv := hv q34 hq34 nq34 w35 hw35
  rw [← hw35]
  have k36 : wK w35 a0 = 12 := (by rw [hw35]; exact nA_old (by rw [hw33]; exact k32) hq34)
  obtain ⟨w37, hw37⟩ : ∃ w37 : Wd, w37 = sR w35 11 9 a0 q34 := ⟨_, rfl⟩
  replace hv := hv w37 hw37
  refine e_putR (pc := 81) dX11_init_81 fRX11_36 (Or.inr ⟨rfl, rfl, rfl⟩) rfl k36 ?_
  rw [← hw37]
  refine e_aload_n (pc := 84) (i := 0) dX11_init_84 rfl rfl ?_
  refine e_sipush (pc := 85) (v := 301) dX11_init_85 (by decide) ?_
  refine e_newJ (pc := 88) (N := 301) (rc' := 39) (rs' := 46459) dX11_init_88 (by decide) (by decide) (by decide) rfl rfl (fun q38 hq38 nq38 => ?_)
  obtain ⟨w39, hw39⟩ : ∃ w39 : Wd, w39 = nA w37 14 q38 301 := ⟨_, rfl⟩
  replace hv := hv q38 hq38 nq38 w39 hw39
  rw [← hw39]
  have k40 : wK w39 a0 = 12 := (by rw [hw39]; exact nA_old (by rw [hw37]; exact k36) hq38)
  obtain ⟨w41, hw41⟩ : ∃ w41 : Wd, w41 = sR w39 11 10 a0 q38 := ⟨_, rfl⟩
  replace hv := hv w41 hw41
  refine e_putR (pc := 90) dX11_init_90 fRX11_39 (Or.inr ⟨rfl, rfl, rfl⟩) rfl k40 ?_
  rw [← hw41]
  refine e_aload_n (pc := 93) (i := 0) dX11_init_93 rfl rfl ?_
  refine e_sipush (pc := 94) (v := 301) dX11_init_94 (by decide) ?_
  refine e_newI (pc := 97) (N := 301) (rc' := 38) (rs' := 46158) dX11_init_97 (by decide) (by decide) (by decide) rfl rfl (fun q42 hq42 nq42 => ?_)
  obtain ⟨w43, hw43⟩ : ∃ w43 : Wd, w43 = nA w41 13 q42 301 := ⟨_, rfl⟩
  replace hv := hv q42 hq42 nq42 w43 hw43
  rw [← hw43]
  have k44 : wK w43 a0 = 12 := (by rw [hw43]; exact nA_old (by rw [hw41]; exact k40) hq42)
  obtain ⟨w45, hw45⟩ : ∃ w45 : Wd, w45 = sR w43 11 11 a0 q42 := ⟨_, rfl⟩
  replace hv := hv w45 hw45
  refine e_putR (pc := 99) dX11_init_99 fRX11_42 (Or.inr ⟨rfl, rfl, rfl⟩) rfl k44 ?_
  rw [← hw45]
  refine e_aload_n (pc := 102) (i := 0) dX11_init_102 rfl rfl ?_
  refine e_sipush (pc := 103) (v := 301) dX11_init_103 (by decide) ?_
  refine e_newJ (pc := 106) (N := 301) (rc' := 37) (rs' := 45857) dX11_init_106 (by decide) (by decide) (by decide) rfl rfl (fun q46 hq46 nq46 => ?_)
  obtain ⟨w47, hw47⟩ : ∃ w47 : Wd, w47 = nA w45 14 q46 301 := ⟨_, rfl⟩
  replace hv := hv q46 hq46 nq46 w47 hw47
  rw [← hw47]
  have k48 : wK w47 a0 = 12 := (by rw [hw47]; exact nA_old (by rw [hw45]; exact k44) hq46)
  obtain ⟨w49, hw49⟩ : ∃ w49 : Wd, w49 = sR w47 11 12 a0 q46 := ⟨_, rfl⟩
  replace hv := hv w49 hw49
  refine e_putR (pc := 108) dX11_init_108 fRX11_45 (Or.inr ⟨rfl, rfl, rfl⟩) rfl k48 ?_
  rw [← hw49]
  refine e_aload_n (pc := 111) (i := 0) dX11_init_111 rfl rfl ?_
  refine e_sipush (pc := 112) (v := 301) dX11_init_112 (by decide) ?_
  refine e_newI (pc := 115) (N := 301) (rc' := 36) (rs' := 45556) dX11_init_115 (by decide) (by decide) (by decide) rfl rfl (fun q50 hq50 nq50 => ?_)
  obtain ⟨w51, hw51⟩ : ∃ w51 : Wd, w51 = nA w49 13 q50 301 := ⟨_, rfl⟩
  replace hv := hv q50 hq50 nq50 w51 hw51
  rw [← hw51]
  have k52 : wK w51 a0 = 12 := (by rw [hw51]; exact nA_old (by rw [hw49]; exact k48) hq50)
  obtain ⟨w53, hw53⟩ : ∃ w53 : Wd, w53 = sR w51 11 13 a0 q50 := ⟨_, rfl⟩
  replace hv := hv w53 hw53
  refine e_putR (pc := 117) dX11_init_117 fRX11_48 (Or.inr ⟨rfl, rfl, rfl⟩) rfl k52 ?_
  rw [← hw53]
  refine e_aload_n (pc := 120) (i := 0) dX11_init_120 rfl rfl ?_
  refine e_sipush (pc := 121) (v := 301) dX11_init_121 (by decide) ?_
  refine e_newI (pc := 124) (N := 301) (rc' := 35) (rs' := 45255) dX11_init_124 (by decide) (by decide) (by decide) rfl rfl (fun q54 hq54 nq54 => ?_)
  obtain ⟨w55, hw55⟩ : ∃ w55 : Wd, w55 = nA w53 13 q54 301 := ⟨_, rfl⟩
  replace hv := hv q54 hq54 nq54 w55 hw55
  rw [← hw55]
  have k56 : wK w55 a0 = 12 := (by rw [hw55]; exact nA_old (by rw [hw53]; exact k52) hq54)
  obtain ⟨w57, hw57⟩ : ∃ w57 : Wd, w57 = sR w55 11 14 a0 q54 := ⟨_, rfl⟩
  replace hv := hv w57 hw57
  refine e_putR (pc := 126) dX11_init_126 fRX11_51 (Or.inr ⟨rfl, rfl, rfl⟩) rfl k56 ?_
  rw [← hw57]
  refine e_aload_n (pc := 129) (i := 0) dX11_init_129 rfl rfl ?_
  refine e_sipush (pc := 130) (v := 301) dX11_init_130 (by decide) ?_
  refine e_newI (pc := 133) (N := 301) (rc' := 34) (rs' := 44954) dX11_init_133 (by decide) (by decide) (by decide) rfl rfl (fun q58 hq58 nq58 => ?_)
  obtain ⟨w59, hw59⟩ : ∃ w59 : Wd, w59 = nA w57 13 q58 301 := ⟨_, rfl⟩
  replace hv := hv q58 hq58 nq58 w59 hw59
  rw [← hw59]
  have k60 : wK w59 a0 = 12 := (by rw [hw59]; exact nA_old (by rw [hw57]; exact k56) hq58)
  obtain ⟨w61, hw61⟩ : ∃ w61 : Wd, w61 = sR w59 11 15 a0 q58 := ⟨_, rfl⟩
  replace hv := hv w61 hw61
  refine e_putR (pc := 135) dX11_init_135 fRX11_54 (Or.inr ⟨rfl, rfl, rfl⟩) rfl k60 ?_
  rw [← hw61]
  refine e_aload_n (pc := 138) (i := 0) dX11_init_138 rfl rfl ?_
  refine e_sipush (pc := 139) (v := 301) dX11_init_139 (by decide) ?_
  refine e_newI (pc := 142) (N := 301) (rc' := 33) (rs' := 44653) dX11_init_142 (by decide) (by decide) (by decide) rfl rfl (fun q62 hq62 nq62 => ?_)
  obtain ⟨w63, hw63⟩ : ∃ w63 : Wd, w63 = nA w61 13 q62 301 := ⟨_, rfl⟩
  replace hv := hv q62 hq62 nq62 w63 hw63
  rw [← hw63]
  have k64 : wK w63 a0 = 12 := (by rw [hw63]; exact nA_old (by rw [hw61]; exact k60) hq62)
  obtain ⟨w65, hw65⟩ : ∃ w65 : Wd, w65 = sR w63 11 16 a0 q62 := ⟨_, rfl⟩
  replace hv := hv w65 hw65
  refine e_putR (pc := 144) dX11_init_144 fRX11_57 (Or.inr ⟨rfl, rfl, rfl⟩) rfl k64 ?_
  rw [← hw65]
  refine e_aload_n (pc := 147) (i := 0) dX11_init_147 rfl rfl ?_
  refine e_sipush (pc := 148) (v := 301) dX11_init_148 (by decide) ?_
  refine e_newI (pc := 151) (N := 301) (rc' := 32) (rs' := 44352) dX11_init_151 (by decide) (by decide) (by decide) rfl rfl (fun q66 hq66 nq66 => ?_)
  obtain ⟨w67, hw67⟩ : ∃ w67 : Wd, w67 = nA w65 13 q66 301 := ⟨_, rfl⟩
  replace hv := hv q66 hq66 nq66 w67 hw67
  rw [← hw67]
  have k68 : wK w67 a0 = 12 := (by rw [hw67]; exact nA_old (by rw [hw65]; exact k64) hq66)
  obtain ⟨w69, hw69⟩ : ∃ w69 : Wd, w69 = sR w67 11 17 a0 q66 := ⟨_, rfl⟩
  replace hv := hv w69 hw69
  refine e_putR (pc := 153) dX11_init_153 fRX11_60 (Or.inr ⟨rfl, rfl, rfl⟩) rfl k68 ?_
  rw [← hw69]
  refine e_aload_n (pc := 156) (i := 0) dX11_init_156 rfl rfl ?_
  refine e_sipush (pc := 157) (v := 301) dX11_init_157 (by decide) ?_
  refine e_newZ (pc := 160) (N := 301) (rc' := 31) (rs' := 44051) dX11_init_160 (by decide) (by decide) (by decide) rfl rfl (fun q70 hq70 nq70 => ?_)
  obtain ⟨w71, hw71⟩ : ∃ w71 : Wd, w71 = nA w69 15 q70 301 := ⟨_, rfl⟩
  replace hv := hv q70 hq70 nq70 w71 hw71
  rw [← hw71]
  have k72 : wK w71 a0 = 12 := (by rw [hw71]; exact nA_old (by rw [hw69]; exact k68) hq70)
  obtain ⟨w73, hw73⟩ : ∃ w73 : Wd, w73 = sR w71 11 18 a0 q70 := ⟨_, rfl⟩
  replace hv := hv w73 hw73
  refine e_putR (pc := 162) dX11_init_162 fRX11_63 (Or.inr ⟨rfl, rfl, rfl⟩) rfl k72 ?_
  rw [← hw73]
  refine e_aload_n (pc := 165) (i := 0) dX11_init_165 rfl rfl ?_
  refine e_sipush (pc := 166) (v := 301) dX11_init_166 (by decide) ?_
  refine e_newZ (pc := 169) (N := 301) (rc' := 30) (rs' := 43750) dX11_init_169 (by decide) (by decide) (by decide) rfl rfl (fun q74 hq74 nq74 => ?_)
  obtain ⟨w75, hw75⟩ : ∃ w75 : Wd, w75 = nA w73 15 q74 301 := ⟨_, rfl⟩
  replace hv := hv q74 hq74 nq74 w75 hw75
  rw [← hw75]
  have k76 : wK w75 a0 = 12 := (by rw [hw75]; exact nA_old (by rw [hw73]; exact k72) hq74)
  obtain ⟨w77, hw77⟩ : ∃ w77 : Wd, w77 = sR w75 11 19 a0 q74 := ⟨_, rfl⟩
  replace hv := hv w77 hw77
  refine e_putR (pc := 171) dX11_init_171 fRX11_66 (Or.inr ⟨rfl, rfl, rfl⟩) rfl k76 ?_
  rw [← hw77]
  refine e_aload_n (pc := 174) (i := 0) dX11_init_174 rfl rfl ?_
  refine e_sipush (pc := 175) (v := 301) dX11_init_175 (by decide) ?_
  refine e_newI (pc := 178) (N := 301) (rc' := 29) (rs' := 43449) dX11_init_178 (by decide) (by decide) (by decide) rfl rfl (fun q78 hq78 nq78 => ?_)
  obtain ⟨w79, hw79⟩ : ∃ w79 : Wd, w79 = nA w77 13 q78 301 := ⟨_, rfl⟩
  replace hv := hv q78 hq78 nq78 w79 hw79
  rw [← hw79]
  have k80 : wK w79 a0 = 12 := (by rw [hw79]; exact nA_old (by rw [hw77]; exact k76) hq78)
  obtain ⟨w81, hw81⟩ : ∃ w81 : Wd, w81 = sR w79 11 20 a0 q78 := ⟨_, rfl⟩
  replace hv := hv w81 hw81
  refine e_putR (pc := 180) dX11_init_180 fRX11_69 (Or.inr ⟨rfl, rfl, rfl⟩) rfl k80 ?_
  rw [← hw81]
  refine e_aload_n (pc := 183) (i := 0) dX11_init_183 rfl rfl ?_
  refine e_sipush (pc := 184) (v := 301) dX11_init_184 (by decide) ?_
  refine e_newI (pc := 187) (N := 301) (rc' := 28) (rs' := 43148) dX11_init_187 (by decide) (by decide) (by decide) rfl rfl (fun q82 hq82 nq82 => ?_)
  obtain ⟨w83, hw83⟩ : ∃ w83 : Wd, w83 = nA w81 13 q82 301 := ⟨_, rfl⟩
  replace hv := hv q82 hq82 nq82 w83 hw83
  rw [← hw83]
  have k84 : wK w83 a0 = 12 := (by rw [hw83]; exact nA_old (by rw [hw81]; exact k80) hq82)
  obtain ⟨w85, hw85⟩ : ∃ w85 : Wd, w85 = sR w83 11 21 a0 q82 := ⟨_, rfl⟩
  replace hv := hv w85 hw85
  refine e_putR (pc := 189) dX11_init_189 fRX11_72 (Or.inr ⟨rfl, rfl, rfl⟩) rfl k84 ?_
  rw [← hw85]
  refine e_aload_n (pc := 192) (i := 0) dX11_init_192 rfl rfl ?_
  refine e_sipush (pc := 193) (v := 301) dX11_init_193 (by decide) ?_
  refine e_newI (pc := 196) (N := 301) (rc' := 27) (rs' := 42847) dX11_init_196 (by decide) (by decide) (by decide) rfl rfl (fun q86 hq86 nq86 => ?_)
  obtain ⟨w87, hw87⟩ : ∃ w87 : Wd, w87 = nA w85 13 q86 301 := ⟨_, rfl⟩
  replace hv := hv q86 hq86 nq86 w87 hw87
  rw [← hw87]
  have k88 : wK w87 a0 = 12 := (by rw [hw87]; exact nA_old (by rw [hw85]; exact k84) hq86)
  obtain ⟨w89, hw89⟩ : ∃ w89 : Wd, w89 = sR w87 11 22 a0 q86 := ⟨_, rfl⟩
  replace hv := hv w89 hw89
  refine e_putR (pc := 198) dX11_init_198 fRX11_75 (Or.inr ⟨rfl, rfl, rfl⟩) rfl k88 ?_
  rw [← hw89]
  refine e_aload_n (pc := 201) (i := 0) dX11_init_201 rfl rfl ?_
  refine e_sipush (pc := 202) (v := 301) dX11_init_202 (by decide) ?_
  refine e_newI (pc := 205) (N := 301) (rc' := 26) (rs' := 42546) dX11_init_205 (by decide) (by decide) (by decide) rfl rfl (fun q90 hq90 nq90 => ?_)
  obtain ⟨w91, hw91⟩ : ∃ w91 : Wd, w91 = nA w89 13 q90 301 := ⟨_, rfl⟩
  replace hv := hv q90 hq90 nq90 w91 hw91
  rw [← hw91]
  have k92 : wK w91 a0 = 12 := (by rw [hw91]; exact nA_old (by rw [hw89]; exact k88) hq90)
  obtain ⟨w93, hw93⟩ : ∃ w93 : Wd, w93 = sR w91 11 23 a0 q90 := ⟨_, rfl⟩
  replace hv := hv w93 hw93
  refine e_putR (pc := 207) dX11_init_207 fRX11_78 (Or.inr ⟨rfl, rfl, rfl⟩) rfl k92 ?_
  rw [← hw93]
  refine e_aload_n (pc := 210) (i := 0) dX11_init_210 rfl rfl ?_
  refine e_sipush (pc := 211) (v := 301) dX11_init_211 (by decide) ?_
  refine e_newI (pc := 214) (N := 301) (rc' := 25) (rs' := 42245) dX11_init_214 (by decide) (by decide) (by decide) rfl rfl (fun q94 hq94 nq94 => ?_)
  obtain ⟨w95, hw95⟩ : ∃ w95 : Wd, w95 = nA w93 13 q94 301 := ⟨_, rfl⟩
  replace hv := hv q94 hq94 nq94 w95 hw95
  rw [← hw95]
  have k96 : wK w95 a0 = 12 := (by rw [hw95]; exact nA_old (by rw [hw93]; exact k92) hq94)
  obtain ⟨w97, hw97⟩ : ∃ w97 : Wd, w97 = sR w95 11 24 a0 q94 := ⟨_, rfl⟩
  replace hv := hv w97 hw97
  refine e_putR (pc := 216) dX11_init_216 fRX11_81 (Or.inr ⟨rfl, rfl, rfl⟩) rfl k96 ?_
  rw [← hw97]
  refine e_aload_n (pc := 219) (i := 0) dX11_init_219 rfl rfl ?_
  refine e_sipush (pc := 220) (v := 301) dX11_init_220 (by decide) ?_
  refine e_newI (pc := 223) (N := 301) (rc' := 24) (rs' := 41944) dX11_init_223 (by decide) (by decide) (by decide) rfl rfl (fun q98 hq98 nq98 => ?_)
  obtain ⟨w99, hw99⟩ : ∃ w99 : Wd, w99 = nA w97 13 q98 301 := ⟨_, rfl⟩
  replace hv := hv q98 hq98 nq98 w99 hw99
  rw [← hw99]
  have k100 : wK w99 a0 = 12 := (by rw [hw99]; exact nA_old (by rw [hw97]; exact k96) hq98)
  obtain ⟨w101, hw101⟩ : ∃ w101 : Wd, w101 = sR w99 11 25 a0 q98 := ⟨_, rfl⟩
  replace hv := hv w101 hw101
  refine e_putR (pc := 225) dX11_init_225 fRX11_84 (Or.inr ⟨rfl, rfl, rfl⟩) rfl k100 ?_
  rw [← hw101]
  refine e_aload_n (pc := 228) (i := 0) dX11_init_228 rfl rfl ?_
  refine e_sipush (pc := 229) (v := 301) dX11_init_229 (by decide) ?_
  refine e_newI (pc := 232) (N := 301) (rc' := 23) (rs' := 41643) dX11_init_232 (by decide) (by decide) (by decide) rfl rfl (fun q102 hq102 nq102 => ?_)
  obtain ⟨w103, hw103⟩ : ∃ w103 : Wd, w103 = nA w101 13 q102 301 := ⟨_, rfl⟩
  replace hv := hv q102 hq102 nq102 w103 hw103
  rw [← hw103]
  have k104 : wK w103 a0 = 12 := (by rw [hw103]; exact nA_old (by rw [hw101]; exact k100) hq102)
  obtain ⟨w105, hw105⟩ : ∃ w105 : Wd, w105 = sR w103 11 26 a0 q102 := ⟨_, rfl⟩
  replace hv := hv w105 hw105
  refine e_putR (pc := 234) dX11_init_234 fRX11_87 (Or.inr ⟨rfl, rfl, rfl⟩) rfl k104 ?_
  rw [← hw105]
  refine e_aload_n (pc := 237) (i := 0) dX11_init_237 rfl rfl ?_
  refine e_sipush (pc := 238) (v := 301) dX11_init_238 (by decide) ?_
  refine e_newI (pc := 241) (N := 301) (rc' := 22) (rs' := 41342) dX11_init_241 (by decide) (by decide) (by decide) rfl rfl (fun q106 hq106 nq106 => ?_)
  obtain ⟨w107, hw107⟩ : ∃ w107 : Wd, w107 = nA w105 13 q106 301 := ⟨_, rfl⟩
  replace hv := hv q106 hq106 nq106 w107 hw107
  rw [← hw107]
  have k108 : wK w107 a0 = 12 := (by rw [hw107]; exact nA_old (by rw [hw105]; exact k104) hq106)
  obtain ⟨w109, hw109⟩ : ∃ w109 : Wd, w109 = sR w107 11 27 a0 q106 := ⟨_, rfl⟩
  replace hv := hv w109 hw109
  refine e_putR (pc := 243) dX11_init_243 fRX11_90 (Or.inr ⟨rfl, rfl, rfl⟩) rfl k108 ?_
  rw [← hw109]
  refine e_aload_n (pc := 246) (i := 0) dX11_init_246 rfl rfl ?_
  refine e_sipush (pc := 247) (v := 18060) dX11_init_247 (by decide) ?_
  refine e_newI (pc := 250) (N := 18060) (rc' := 21) (rs' := 23282) dX11_init_250 (by decide) (by decide) (by decide) rfl rfl (fun q110 hq110 nq110 => ?_)
  obtain ⟨w111, hw111⟩ : ∃ w111 : Wd, w111 = nA w109 13 q110 18060 := ⟨_, rfl⟩
  replace hv := hv q110 hq110 nq110 w111 hw111
  rw [← hw111]
  have k112 : wK w111 a0 = 12 := (by rw [hw111]; exact nA_old (by rw [hw109]; exact k108) hq110)
  obtain ⟨w113, hw113⟩ : ∃ w113 : Wd, w113 = sR w111 11 28 a0 q110 := ⟨_, rfl⟩
  replace hv := hv w113 hw113
  refine e_putR (pc := 252) dX11_init_252 fRX11_93 (Or.inr ⟨rfl, rfl, rfl⟩) rfl k112 ?_
  rw [← hw113]
  refine e_aload_n (pc := 255) (i := 0) dX11_init_255 rfl rfl ?_
  refine e_sipush (pc := 256) (v := 18060) dX11_init_256 (by decide) ?_
  refine e_newI (pc := 259) (N := 18060) (rc' := 20) (rs' := 5222) dX11_init_259 (by decide) (by decide) (by decide) rfl rfl (fun q114 hq114 nq114 => ?_)
  obtain ⟨w115, hw115⟩ : ∃ w115 : Wd, w115 = nA w113 13 q114 18060 := ⟨_, rfl⟩
  replace hv := hv q114 hq114 nq114 w115 hw115
  rw [← hw115]
  have k116 : wK w115 a0 = 12 := (by rw [hw115]; exact nA_old (by rw [hw113]; exact k112) hq114)
  obtain ⟨w117, hw117⟩ : ∃ w117 : Wd, w117 = sR w115 11 29 a0 q114 := ⟨_, rfl⟩
  replace hv := hv w117 hw117
  refine e_putR (pc := 261) dX11_init_261 fRX11_96 (Or.inr ⟨rfl, rfl, rfl⟩) rfl k116 ?_
  rw [← hw117]
  refine e_aload_n (pc := 264) (i := 0) dX11_init_264 rfl rfl ?_
  refine e_bipush (pc := 265) (v := 101) dX11_init_265 (by decide) ?_
  refine e_newI (pc := 267) (N := 101) (rc' := 19) (rs' := 5121) dX11_init_267 (by decide) (by decide) (by decide) rfl rfl (fun q118 hq118 nq118 => ?_)
  obtain ⟨w119, hw119⟩ : ∃ w119 : Wd, w119 = nA w117 13 q118 101 := ⟨_, rfl⟩
  replace hv := hv q118 hq118 nq118 w119 hw119
  rw [← hw119]
  have k120 : wK w119 a0 = 12 := (by rw [hw119]; exact nA_old (by rw [hw117]; exact k116) hq118)
  obtain ⟨w121, hw121⟩ : ∃ w121 : Wd, w121 = sR w119 11 31 a0 q118 := ⟨_, rfl⟩
  replace hv := hv w121 hw121
  refine e_putR (pc := 269) dX11_init_269 fRX11_99 (Or.inr ⟨rfl, rfl, rfl⟩) rfl k120 ?_
  rw [← hw121]
  refine e_aload_n (pc := 272) (i := 0) dX11_init_272 rfl rfl ?_
  refine e_bipush (pc := 273) (v := 101) dX11_init_273 (by decide) ?_
  refine e_newI (pc := 275) (N := 101) (rc' := 18) (rs' := 5020) dX11_init_275 (by decide) (by decide) (by decide) rfl rfl (fun q122 hq122 nq122 => ?_)
  obtain ⟨w123, hw123⟩ : ∃ w123 : Wd, w123 = nA w121 13 q122 101 := ⟨_, rfl⟩
  replace hv := hv q122 hq122 nq122 w123 hw123
  rw [← hw123]
  have k124 : wK w123 a0 = 12 := (by rw [hw123]; exact nA_old (by rw [hw121]; exact k120) hq122)
  obtain ⟨w125, hw125⟩ : ∃ w125 : Wd, w125 = sR w123 11 32 a0 q122 := ⟨_, rfl⟩
  replace hv := hv w125 hw125
  refine e_putR (pc := 277) dX11_init_277 fRX11_102 (Or.inr ⟨rfl, rfl, rfl⟩) rfl k124 ?_
  rw [← hw125]
  refine e_aload_n (pc := 280) (i := 0) dX11_init_280 rfl rfl ?_
  refine e_bipush (pc := 281) (v := 101) dX11_init_281 (by decide) ?_
  refine e_newJ (pc := 283) (N := 101) (rc' := 17) (rs' := 4919) dX11_init_283 (by decide) (by decide) (by decide) rfl rfl (fun q126 hq126 nq126 => ?_)
  obtain ⟨w127, hw127⟩ : ∃ w127 : Wd, w127 = nA w125 14 q126 101 := ⟨_, rfl⟩
  replace hv := hv q126 hq126 nq126 w127 hw127
  rw [← hw127]
  have k128 : wK w127 a0 = 12 := (by rw [hw127]; exact nA_old (by rw [hw125]; exact k124) hq126)
  obtain ⟨w129, hw129⟩ : ∃ w129 : Wd, w129 = sR w127 11 33 a0 q126 := ⟨_, rfl⟩
  replace hv := hv w129 hw129
  refine e_putR (pc := 285) dX11_init_285 fRX11_105 (Or.inr ⟨rfl, rfl, rfl⟩) rfl k128 ?_
  rw [← hw129]
  refine e_aload_n (pc := 288) (i := 0) dX11_init_288 rfl rfl ?_
  refine e_bipush (pc := 289) (v := 101) dX11_init_289 (by decide) ?_
  refine e_newI (pc := 291) (N := 101) (rc' := 16) (rs' := 4818) dX11_init_291 (by decide) (by decide) (by decide) rfl rfl (fun q130 hq130 nq130 => ?_)
  obtain ⟨w131, hw131⟩ : ∃ w131 : Wd, w131 = nA w129 13 q130 101 := ⟨_, rfl⟩
  replace hv := hv q130 hq130 nq130 w131 hw131
  rw [← hw131]
  have k132 : wK w131 a0 = 12 := (by rw [hw131]; exact nA_old (by rw [hw129]; exact k128) hq130)
  obtain ⟨w133, hw133⟩ : ∃ w133 : Wd, w133 = sR w131 11 34 a0 q130 := ⟨_, rfl⟩
  replace hv := hv w133 hw133
  refine e_putR (pc := 293) dX11_init_293 fRX11_108 (Or.inr ⟨rfl, rfl, rfl⟩) rfl k132 ?_
  rw [← hw133]
  refine e_aload_n (pc := 296) (i := 0) dX11_init_296 rfl rfl ?_
  refine e_bipush (pc := 297) (v := 101) dX11_init_297 (by decide) ?_
  refine e_newI (pc := 299) (N := 101) (rc' := 15) (rs' := 4717) dX11_init_299 (by decide) (by decide) (by decide) rfl rfl (fun q134 hq134 nq134 => ?_)
  obtain ⟨w135, hw135⟩ : ∃ w135 : Wd, w135 = nA w133 13 q134 101 := ⟨_, rfl⟩
  replace hv := hv q134 hq134 nq134 w135 hw135
  rw [← hw135]
  have k136 : wK w135 a0 = 12 := (by rw [hw135]; exact nA_old (by rw [hw133]; exact k132) hq134)
  obtain ⟨w137, hw137⟩ : ∃ w137 : Wd, w137 = sR w135 11 35 a0 q134 := ⟨_, rfl⟩
  replace hv := hv w137 hw137
  refine e_putR (pc := 301) dX11_init_301 fRX11_111 (Or.inr ⟨rfl, rfl, rfl⟩) rfl k136 ?_
  rw [← hw137]
  refine e_aload_n (pc := 304) (i := 0) dX11_init_304 rfl rfl ?_
  refine e_bipush (pc := 305) (v := 101) dX11_init_305 (by decide) ?_
  refine e_newI (pc := 307) (N := 101) (rc' := 14) (rs' := 4616) dX11_init_307 (by decide) (by decide) (by decide) rfl rfl (fun q138 hq138 nq138 => ?_)
  obtain ⟨w139, hw139⟩ : ∃ w139 : Wd, w139 = nA w137 13 q138 101 := ⟨_, rfl⟩
  replace hv := hv q138 hq138 nq138 w139 hw139
  rw [← hw139]
  have k140 : wK w139 a0 = 12 := (by rw [hw139]; exact nA_old (by rw [hw137]; exact k136) hq138)
  obtain ⟨w141, hw141⟩ : ∃ w141 : Wd, w141 = sR w139 11 36 a0 q138 := ⟨_, rfl⟩
  replace hv := hv w141 hw141
  refine e_putR (pc := 309) dX11_init_309 fRX11_114 (Or.inr ⟨rfl, rfl, rfl⟩) rfl k140 ?_
  rw [← hw141]
  refine e_aload_n (pc := 312) (i := 0) dX11_init_312 rfl rfl ?_
  refine e_bipush (pc := 313) (v := 101) dX11_init_313 (by decide) ?_
  refine e_newI (pc := 315) (N := 101) (rc' := 13) (rs' := 4515) dX11_init_315 (by decide) (by decide) (by decide) rfl rfl (fun q142 hq142 nq142 => ?_)
  obtain ⟨w143, hw143⟩ : ∃ w143 : Wd, w143 = nA w141 13 q142 101 := ⟨_, rfl⟩
  replace hv := hv q142 hq142 nq142 w143 hw143
  rw [← hw143]
  have k144 : wK w143 a0 = 12 := (by rw [hw143]; exact nA_old (by rw [hw141]; exact k140) hq142)
  obtain ⟨w145, hw145⟩ : ∃ w145 : Wd, w145 = sR w143 11 37 a0 q142 := ⟨_, rfl⟩
  replace hv := hv w145 hw145
  refine e_putR (pc := 317) dX11_init_317 fRX11_117 (Or.inr ⟨rfl, rfl, rfl⟩) rfl k144 ?_
  rw [← hw145]
  refine e_aload_n (pc := 320) (i := 0) dX11_init_320 rfl rfl ?_
  refine e_iconst (pc := 321) (v := (-1)) dX11_init_321 (by decide) ?_
  have k146 : wK w145 a0 = 12 := (by rw [hw145]; exact k144)
  obtain ⟨w147, hw147⟩ : ∃ w147 : Wd, w147 = sI w145 11 40 a0 (-1) := ⟨_, rfl⟩
  replace hv := hv w147 hw147
  refine e_putI (pc := 322) dX11_init_322 fRX11_120 (Or.inl rfl) rfl k146 ?_
  rw [← hw147]
  refine e_aload_n (pc := 325) (i := 0) dX11_init_325 rfl rfl ?_
  refine e_sipush (pc := 326) (v := 301) dX11_init_326 (by decide) ?_
  refine e_newI (pc := 329) (N := 301) (rc' := 12) (rs' := 4214) dX11_init_329 (by decide) (by decide) (by decide) rfl rfl (fun q148 hq148 nq148 => ?_)
  obtain ⟨w149, hw149⟩ : ∃ w149 : Wd, w149 = nA w147 13 q148 301 := ⟨_, rfl⟩
  replace hv := hv q148 hq148 nq148 w149 hw149
  rw [← hw149]
  have k150 : wK w149 a0 = 12 := (by rw [hw149]; exact nA_old (by rw [hw147]; exact k146) hq148)
  obtain ⟨w151, hw151⟩ : ∃ w151 : Wd, w151 = sR w149 11 47 a0 q148 := ⟨_, rfl⟩
  replace hv := hv w151 hw151
  refine e_putR (pc := 331) dX11_init_331 fRX11_124 (Or.inr ⟨rfl, rfl, rfl⟩) rfl k150 ?_
  rw [← hw151]
  refine e_aload_n (pc := 334) (i := 0) dX11_init_334 rfl rfl ?_
  refine e_sipush (pc := 335) (v := 301) dX11_init_335 (by decide) ?_
  refine e_newJ (pc := 338) (N := 301) (rc' := 11) (rs' := 3913) dX11_init_338 (by decide) (by decide) (by decide) rfl rfl (fun q152 hq152 nq152 => ?_)
  obtain ⟨w153, hw153⟩ : ∃ w153 : Wd, w153 = nA w151 14 q152 301 := ⟨_, rfl⟩
  replace hv := hv q152 hq152 nq152 w153 hw153
  rw [← hw153]
  have k154 : wK w153 a0 = 12 := (by rw [hw153]; exact nA_old (by rw [hw151]; exact k150) hq152)
  obtain ⟨w155, hw155⟩ : ∃ w155 : Wd, w155 = sR w153 11 49 a0 q152 := ⟨_, rfl⟩
  replace hv := hv w155 hw155
  refine e_putR (pc := 340) dX11_init_340 fRX11_127 (Or.inr ⟨rfl, rfl, rfl⟩) rfl k154 ?_
  rw [← hw155]
  refine e_aload_n (pc := 343) (i := 0) dX11_init_343 rfl rfl ?_
  refine e_sipush (pc := 344) (v := 301) dX11_init_344 (by decide) ?_
  refine e_newI (pc := 347) (N := 301) (rc' := 10) (rs' := 3612) dX11_init_347 (by decide) (by decide) (by decide) rfl rfl (fun q156 hq156 nq156 => ?_)
  obtain ⟨w157, hw157⟩ : ∃ w157 : Wd, w157 = nA w155 13 q156 301 := ⟨_, rfl⟩
  replace hv := hv q156 hq156 nq156 w157 hw157
  rw [← hw157]
  have k158 : wK w157 a0 = 12 := (by rw [hw157]; exact nA_old (by rw [hw155]; exact k154) hq156)
  obtain ⟨w159, hw159⟩ : ∃ w159 : Wd, w159 = sR w157 11 50 a0 q156 := ⟨_, rfl⟩
  replace hv := hv w159 hw159
  refine e_putR (pc := 349) dX11_init_349 fRX11_130 (Or.inr ⟨rfl, rfl, rfl⟩) rfl k158 ?_
  rw [← hw159]
  refine e_aload_n (pc := 352) (i := 0) dX11_init_352 rfl rfl ?_
  refine e_sipush (pc := 353) (v := 301) dX11_init_353 (by decide) ?_
  refine e_newI (pc := 356) (N := 301) (rc' := 9) (rs' := 3311) dX11_init_356 (by decide) (by decide) (by decide) rfl rfl (fun q160 hq160 nq160 => ?_)
  obtain ⟨w161, hw161⟩ : ∃ w161 : Wd, w161 = nA w159 13 q160 301 := ⟨_, rfl⟩
  replace hv := hv q160 hq160 nq160 w161 hw161
  rw [← hw161]
  have k162 : wK w161 a0 = 12 := (by rw [hw161]; exact nA_old (by rw [hw159]; exact k158) hq160)
  obtain ⟨w163, hw163⟩ : ∃ w163 : Wd, w163 = sR w161 11 51 a0 q160 := ⟨_, rfl⟩
  replace hv := hv w163 hw163
  refine e_putR (pc := 358) dX11_init_358 fRX11_133 (Or.inr ⟨rfl, rfl, rfl⟩) rfl k162 ?_
  rw [← hw163]
  refine e_aload_n (pc := 361) (i := 0) dX11_init_361 rfl rfl ?_
  refine e_sipush (pc := 362) (v := 602) dX11_init_362 (by decide) ?_
  refine e_newI (pc := 365) (N := 602) (rc' := 8) (rs' := 2709) dX11_init_365 (by decide) (by decide) (by decide) rfl rfl (fun q164 hq164 nq164 => ?_)
  obtain ⟨w165, hw165⟩ : ∃ w165 : Wd, w165 = nA w163 13 q164 602 := ⟨_, rfl⟩
  replace hv := hv q164 hq164 nq164 w165 hw165
  rw [← hw165]
  have k166 : wK w165 a0 = 12 := (by rw [hw165]; exact nA_old (by rw [hw163]; exact k162) hq164)
  obtain ⟨w167, hw167⟩ : ∃ w167 : Wd, w167 = sR w165 11 53 a0 q164 := ⟨_, rfl⟩
  replace hv := hv w167 hw167
  refine e_putR (pc := 367) dX11_init_367 fRX11_136 (Or.inr ⟨rfl, rfl, rfl⟩) rfl k166 ?_
  rw [← hw167]
  refine e_aload_n (pc := 370) (i := 0) dX11_init_370 rfl rfl ?_
  refine e_sipush (pc := 371) (v := 602) dX11_init_371 (by decide) ?_
  refine e_newZ (pc := 374) (N := 602) (rc' := 7) (rs' := 2107) dX11_init_374 (by decide) (by decide) (by decide) rfl rfl (fun q168 hq168 nq168 => ?_)
  obtain ⟨w169, hw169⟩ : ∃ w169 : Wd, w169 = nA w167 15 q168 602 := ⟨_, rfl⟩
  replace hv := hv q168 hq168 nq168 w169 hw169
  rw [← hw169]
  have k170 : wK w169 a0 = 12 := (by rw [hw169]; exact nA_old (by rw [hw167]; exact k166) hq168)
  obtain ⟨w171, hw171⟩ : ∃ w171 : Wd, w171 = sR w169 11 54 a0 q168 := ⟨_, rfl⟩
  replace hv := hv w171 hw171
  refine e_putR (pc := 376) dX11_init_376 fRX11_139 (Or.inr ⟨rfl, rfl, rfl⟩) rfl k170 ?_
  rw [← hw171]
  refine e_aload_n (pc := 379) (i := 0) dX11_init_379 rfl rfl ?_
  refine e_sipush (pc := 380) (v := 301) dX11_init_380 (by decide) ?_
  refine e_newI (pc := 383) (N := 301) (rc' := 6) (rs' := 1806) dX11_init_383 (by decide) (by decide) (by decide) rfl rfl (fun q172 hq172 nq172 => ?_)
  obtain ⟨w173, hw173⟩ : ∃ w173 : Wd, w173 = nA w171 13 q172 301 := ⟨_, rfl⟩
  replace hv := hv q172 hq172 nq172 w173 hw173
  rw [← hw173]
  have k174 : wK w173 a0 = 12 := (by rw [hw173]; exact nA_old (by rw [hw171]; exact k170) hq172)
  obtain ⟨w175, hw175⟩ : ∃ w175 : Wd, w175 = sR w173 11 55 a0 q172 := ⟨_, rfl⟩
  replace hv := hv w175 hw175
  refine e_putR (pc := 385) dX11_init_385 fRX11_142 (Or.inr ⟨rfl, rfl, rfl⟩) rfl k174 ?_
  rw [← hw175]
  refine e_aload_n (pc := 388) (i := 0) dX11_init_388 rfl rfl ?_
  refine e_sipush (pc := 389) (v := 301) dX11_init_389 (by decide) ?_
  refine e_newI (pc := 392) (N := 301) (rc' := 5) (rs' := 1505) dX11_init_392 (by decide) (by decide) (by decide) rfl rfl (fun q176 hq176 nq176 => ?_)
  obtain ⟨w177, hw177⟩ : ∃ w177 : Wd, w177 = nA w175 13 q176 301 := ⟨_, rfl⟩
  replace hv := hv q176 hq176 nq176 w177 hw177
  rw [← hw177]
  have k178 : wK w177 a0 = 12 := (by rw [hw177]; exact nA_old (by rw [hw175]; exact k174) hq176)
  obtain ⟨w179, hw179⟩ : ∃ w179 : Wd, w179 = sR w177 11 56 a0 q176 := ⟨_, rfl⟩
  replace hv := hv w179 hw179
  refine e_putR (pc := 394) dX11_init_394 fRX11_145 (Or.inr ⟨rfl, rfl, rfl⟩) rfl k178 ?_
  rw [← hw179]
  refine e_aload_n (pc := 397) (i := 0) dX11_init_397 rfl rfl ?_
  refine e_sipush (pc := 398) (v := 301) dX11_init_398 (by decide) ?_
  refine e_newJ (pc := 401) (N := 301) (rc' := 4) (rs' := 1204) dX11_init_401 (by decide) (by decide) (by decide) rfl rfl (fun q180 hq180 nq180 => ?_)
  obtain ⟨w181, hw181⟩ : ∃ w181 : Wd, w181 = nA w179 14 q180 301 := ⟨_, rfl⟩
  replace hv := hv q180 hq180 nq180 w181 hw181
  rw [← hw181]
  have k182 : wK w181 a0 = 12 := (by rw [hw181]; exact nA_old (by rw [hw179]; exact k178) hq180)
  obtain ⟨w183, hw183⟩ : ∃ w183 : Wd, w183 = sR w181 11 59 a0 q180 := ⟨_, rfl⟩
  replace hv := hv w183 hw183
  refine e_putR (pc := 403) dX11_init_403 fRX11_148 (Or.inr ⟨rfl, rfl, rfl⟩) rfl k182 ?_
  rw [← hw183]
  refine e_aload_n (pc := 406) (i := 0) dX11_init_406 rfl rfl ?_
  refine e_sipush (pc := 407) (v := 301) dX11_init_407 (by decide) ?_
  refine e_newJ (pc := 410) (N := 301) (rc' := 3) (rs' := 903) dX11_init_410 (by decide) (by decide) (by decide) rfl rfl (fun q184 hq184 nq184 => ?_)
  obtain ⟨w185, hw185⟩ : ∃ w185 : Wd, w185 = nA w183 14 q184 301 := ⟨_, rfl⟩
  replace hv := hv q184 hq184 nq184 w185 hw185
  rw [← hw185]
  have k186 : wK w185 a0 = 12 := (by rw [hw185]; exact nA_old (by rw [hw183]; exact k182) hq184)
  obtain ⟨w187, hw187⟩ : ∃ w187 : Wd, w187 = sR w185 11 60 a0 q184 := ⟨_, rfl⟩
  replace hv := hv w187 hw187
  refine e_putR (pc := 412) dX11_init_412 fRX11_151 (Or.inr ⟨rfl, rfl, rfl⟩) rfl k186 ?_
  rw [← hw187]
  refine e_aload_n (pc := 415) (i := 0) dX11_init_415 rfl rfl ?_
  refine e_sipush (pc := 416) (v := 301) dX11_init_416 (by decide) ?_
  refine e_newZ (pc := 419) (N := 301) (rc' := 2) (rs' := 602) dX11_init_419 (by decide) (by decide) (by decide) rfl rfl (fun q188 hq188 nq188 => ?_)
  obtain ⟨w189, hw189⟩ : ∃ w189 : Wd, w189 = nA w187 15 q188 301 := ⟨_, rfl⟩
  replace hv := hv q188 hq188 nq188 w189 hw189
  rw [← hw189]
  have k190 : wK w189 a0 = 12 := (by rw [hw189]; exact nA_old (by rw [hw187]; exact k186) hq188)
  obtain ⟨w191, hw191⟩ : ∃ w191 : Wd, w191 = sR w189 11 61 a0 q188 := ⟨_, rfl⟩
  replace hv := hv w191 hw191
  refine e_putR (pc := 421) dX11_init_421 fRX11_154 (Or.inr ⟨rfl, rfl, rfl⟩) rfl k190 ?_
  rw [← hw191]
  refine e_aload_n (pc := 424) (i := 0) dX11_init_424 rfl rfl ?_
  refine e_sipush (pc := 425) (v := 301) dX11_init_425 (by decide) ?_
  refine e_newJ (pc := 428) (N := 301) (rc' := 1) (rs' := 301) dX11_init_428 (by decide) (by decide) (by decide) rfl rfl (fun q192 hq192 nq192 => ?_)
  obtain ⟨w193, hw193⟩ : ∃ w193 : Wd, w193 = nA w191 14 q192 301 := ⟨_, rfl⟩
  replace hv := hv q192 hq192 nq192 w193 hw193
  rw [← hw193]
  have k194 : wK w193 a0 = 12 := (by rw [hw193]; exact nA_old (by rw [hw191]; exact k190) hq192)
  obtain ⟨w195, hw195⟩ : ∃ w195 : Wd, w195 = sR w193 11 62 a0 q192 := ⟨_, rfl⟩
  replace hv := hv w195 hw195
  refine e_putR (pc := 430) dX11_init_430 fRX11_157 (Or.inr ⟨rfl, rfl, rfl⟩) rfl k194 ?_
  rw [← hw195]
  refine e_aload_n (pc := 433) (i := 0) dX11_init_433 rfl rfl ?_
  refine e_sipush (pc := 434) (v := 301) dX11_init_434 (by decide) ?_
  refine e_newJ (pc := 437) (N := 301) (rc' := 0) (rs' := 0) dX11_init_437 (by decide) (by decide) (by decide) rfl rfl (fun q196 hq196 nq196 => ?_)
  obtain ⟨w197, hw197⟩ : ∃ w197 : Wd, w197 = nA w195 14 q196 301 := ⟨_, rfl⟩
  replace hv := hv q196 hq196 nq196 w197 hw197
  rw [← hw197]
  have k198 : wK w197 a0 = 12 := (by rw [hw197]; exact nA_old (by rw [hw195]; exact k194) hq196)
  obtain ⟨w199, hw199⟩ : ∃ w199 : Wd, w199 = sR w197 11 63 a0 q196 := ⟨_, rfl⟩
  replace hv := hv w199 hw199
  refine e_putR (pc := 439) dX11_init_439 fRX11_160 (Or.inr ⟨rfl, rfl, rfl⟩) rfl k198 ?_
  rw [← hw199]
  exact e_vreturn (pc := 442) dX11_init_442 rfl ⟨rfl, hv⟩
