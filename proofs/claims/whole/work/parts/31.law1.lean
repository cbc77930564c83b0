theorem vRL_9 : MI RL 9 mX10_init := ⟨(tb_a1 16 (by decide +kernel) rfl), (tb_a1 17 (by decide +kernel) rfl)⟩
theorem vRL_12 : MI RL 12 mX11_init := ⟨(tb_a4 149 (by decide +kernel) rfl), (tb_a4 150 (by decide +kernel) rfl)⟩
theorem vRL_13 : MV RL 13 mX10_folio := ⟨(tb_a1 105 (by decide +kernel) rfl), (tb_a1 106 (by decide +kernel) rfl), (tb_a1 107 (by decide +kernel) rfl)⟩
theorem vRL_17 : MV RL 17 mX11_folio := ⟨(tb_a5 139 (by decide +kernel) rfl), (tb_a5 140 (by decide +kernel) rfl), (tb_a5 141 (by decide +kernel) rfl)⟩
theorem vRL_18 : MV RL 18 mX10_tear := ⟨(tb_a1 143 (by decide +kernel) rfl), (tb_a1 144 (by decide +kernel) rfl), (tb_a1 145 (by decide +kernel) rfl)⟩
theorem vRL_22 : MV RL 22 mX11_tear := ⟨(tb_a5 147 (by decide +kernel) rfl), (tb_a5 148 (by decide +kernel) rfl), (tb_a5 149 (by decide +kernel) rfl)⟩
theorem vRL_23 : MV RL 23 mX10_day := ⟨(tb_a1 166 (by decide +kernel) rfl), (tb_a1 167 (by decide +kernel) rfl), (tb_a1 168 (by decide +kernel) rfl)⟩
theorem vRL_27 : MV RL 27 mX11_day := ⟨(tb_a5 159 (by decide +kernel) rfl), (tb_a5 160 (by decide +kernel) rfl), (tb_a5 161 (by decide +kernel) rfl)⟩
theorem vRL_28 : MV RL 28 mX10_since := ⟨(tb_a1 175 (by decide +kernel) rfl), (tb_a1 176 (by decide +kernel) rfl), (tb_a1 177 (by decide +kernel) rfl)⟩
theorem vRL_31 : MV RL 31 mX11_since := ⟨(tb_a5 164 (by decide +kernel) rfl), (tb_a5 165 (by decide +kernel) rfl), (tb_a5 166 (by decide +kernel) rfl)⟩
theorem vRL_34 : MV RL 34 mX10_enter := ⟨(tb_a1 183 (by decide +kernel) rfl), (tb_a1 184 (by decide +kernel) rfl), (tb_a1 185 (by decide +kernel) rfl)⟩
theorem vRL_38 : MV RL 38 mX11_enter := ⟨(tb_a5 168 (by decide +kernel) rfl), (tb_a5 169 (by decide +kernel) rfl), (tb_a5 170 (by decide +kernel) rfl)⟩
theorem vRL_39 : MV RL 39 mX10_claim := ⟨(tb_a2 181 (by decide +kernel) rfl), (tb_a2 182 (by decide +kernel) rfl), (tb_a2 183 (by decide +kernel) rfl)⟩
theorem vRL_43 : MV RL 43 mX11_claim := ⟨(tb_a5 186 (by decide +kernel) rfl), (tb_a5 187 (by decide +kernel) rfl), (tb_a5 188 (by decide +kernel) rfl)⟩
theorem vRL_44 : MV RL 44 mX10_owe := ⟨(tb_a2 196 (by decide +kernel) rfl), (tb_a2 197 (by decide +kernel) rfl), (tb_a2 198 (by decide +kernel) rfl)⟩
theorem vRL_48 : MV RL 48 mX11_owe := ⟨(tb_a5 190 (by decide +kernel) rfl), (tb_a5 191 (by decide +kernel) rfl), (tb_a5 192 (by decide +kernel) rfl)⟩
theorem vRL_49 : MV RL 49 mX10_pay := ⟨(tb_a2 219 (by decide +kernel) rfl), (tb_a2 220 (by decide +kernel) rfl), (tb_a2 221 (by decide +kernel) rfl)⟩
theorem vRL_53 : MV RL 53 mX11_pay := ⟨(tb_a5 218 (by decide +kernel) rfl), (tb_a5 219 (by decide +kernel) rfl), (tb_a5 220 (by decide +kernel) rfl)⟩
theorem vRL_54 : MV RL 54 mX10_paper := ⟨(tb_a2 231 (by decide +kernel) rfl), (tb_a2 232 (by decide +kernel) rfl), (tb_a2 233 (by decide +kernel) rfl)⟩
theorem vRL_58 : MV RL 58 mX11_paper := ⟨(tb_a5 222 (by decide +kernel) rfl), (tb_a5 223 (by decide +kernel) rfl), (tb_a5 224 (by decide +kernel) rfl)⟩
theorem vRL_59 : MV RL 59 mX10_split := ⟨(tb_a3 2 (by decide +kernel) rfl), (tb_a3 3 (by decide +kernel) rfl), (tb_a3 4 (by decide +kernel) rfl)⟩
theorem vRL_63 : MV RL 63 mX11_split := ⟨(tb_a5 226 (by decide +kernel) rfl), (tb_a5 227 (by decide +kernel) rfl), (tb_a5 228 (by decide +kernel) rfl)⟩
theorem vRL_64 : MV RL 64 mX10_hand := ⟨(tb_a3 18 (by decide +kernel) rfl), (tb_a3 19 (by decide +kernel) rfl), (tb_a3 20 (by decide +kernel) rfl)⟩
theorem vRL_68 : MV RL 68 mX11_hand := ⟨(tb_a5 238 (by decide +kernel) rfl), (tb_a5 239 (by decide +kernel) rfl), (tb_a6 0 (by decide +kernel) rfl)⟩
theorem vRL_69 : MV RL 69 mX10_post := ⟨(tb_a3 22 (by decide +kernel) rfl), (tb_a3 23 (by decide +kernel) rfl), (tb_a3 24 (by decide +kernel) rfl)⟩
theorem vRL_73 : MV RL 73 mX11_post := ⟨(tb_a6 2 (by decide +kernel) rfl), (tb_a6 3 (by decide +kernel) rfl), (tb_a6 4 (by decide +kernel) rfl)⟩
theorem vRL_74 : MV RL 74 mX10_undo := ⟨(tb_a3 91 (by decide +kernel) rfl), (tb_a3 92 (by decide +kernel) rfl), (tb_a3 93 (by decide +kernel) rfl)⟩
theorem vRL_77 : MV RL 77 mX11_undo := ⟨(tb_a6 22 (by decide +kernel) rfl), (tb_a6 23 (by decide +kernel) rfl), (tb_a6 24 (by decide +kernel) rfl)⟩
theorem vRL_78 : MV RL 78 mX10_release := ⟨(tb_a3 102 (by decide +kernel) rfl), (tb_a3 103 (by decide +kernel) rfl), (tb_a3 104 (by decide +kernel) rfl)⟩
theorem vRL_81 : MV RL 81 mX11_release := ⟨(tb_a6 26 (by decide +kernel) rfl), (tb_a6 27 (by decide +kernel) rfl), (tb_a6 28 (by decide +kernel) rfl)⟩
theorem vRL_82 : MV RL 82 mX10_strike := ⟨(tb_a3 129 (by decide +kernel) rfl), (tb_a3 130 (by decide +kernel) rfl), (tb_a3 131 (by decide +kernel) rfl)⟩
theorem vRL_85 : MV RL 85 mX11_strike := ⟨(tb_a6 42 (by decide +kernel) rfl), (tb_a6 43 (by decide +kernel) rfl), (tb_a6 44 (by decide +kernel) rfl)⟩
theorem vRL_86 : MV RL 86 mX10_keep := ⟨(tb_a3 137 (by decide +kernel) rfl), (tb_a3 138 (by decide +kernel) rfl), (tb_a3 139 (by decide +kernel) rfl)⟩
theorem vRL_89 : MV RL 89 mX11_keep := ⟨(tb_a6 46 (by decide +kernel) rfl), (tb_a6 47 (by decide +kernel) rfl), (tb_a6 48 (by decide +kernel) rfl)⟩
theorem vRL_90 : MV RL 90 mX10_many := ⟨(tb_a3 145 (by decide +kernel) rfl), (tb_a3 146 (by decide +kernel) rfl), (tb_a3 147 (by decide +kernel) rfl)⟩
theorem vRL_94 : MV RL 94 mX11_many := ⟨(tb_a6 50 (by decide +kernel) rfl), (tb_a6 51 (by decide +kernel) rfl), (tb_a6 52 (by decide +kernel) rfl)⟩
theorem vRL_95 : MV RL 95 mX10_list := ⟨(tb_a3 205 (by decide +kernel) rfl), (tb_a3 206 (by decide +kernel) rfl), (tb_a3 207 (by decide +kernel) rfl)⟩
theorem vRL_99 : MV RL 99 mX11_list := ⟨(tb_a6 86 (by decide +kernel) rfl), (tb_a6 87 (by decide +kernel) rfl), (tb_a6 88 (by decide +kernel) rfl)⟩
theorem vRL_100 : MV RL 100 mX10_rank := ⟨(tb_a3 218 (by decide +kernel) rfl), (tb_a3 219 (by decide +kernel) rfl), (tb_a3 220 (by decide +kernel) rfl)⟩
theorem vRL_103 : MV RL 103 mX11_rank := ⟨(tb_a6 90 (by decide +kernel) rfl), (tb_a6 91 (by decide +kernel) rfl), (tb_a6 92 (by decide +kernel) rfl)⟩
theorem vRL_104 : MV RL 104 mX10_why := ⟨(tb_a3 226 (by decide +kernel) rfl), (tb_a3 227 (by decide +kernel) rfl), (tb_a3 228 (by decide +kernel) rfl)⟩
theorem vRL_107 : MV RL 107 mX11_why := ⟨(tb_a6 98 (by decide +kernel) rfl), (tb_a6 99 (by decide +kernel) rfl), (tb_a6 100 (by decide +kernel) rfl)⟩
theorem vRL_108 : MV RL 108 mX10_as := ⟨(tb_a3 230 (by decide +kernel) rfl), (tb_a3 231 (by decide +kernel) rfl), (tb_a3 232 (by decide +kernel) rfl)⟩
theorem vRL_112 : MV RL 112 mX11_as := ⟨(tb_a6 102 (by decide +kernel) rfl), (tb_a6 103 (by decide +kernel) rfl), (tb_a6 104 (by decide +kernel) rfl)⟩
theorem vRL_113 : MV RL 113 mX10_choose := ⟨(tb_a3 234 (by decide +kernel) rfl), (tb_a3 235 (by decide +kernel) rfl), (tb_a3 236 (by decide +kernel) rfl)⟩
theorem vRL_116 : MV RL 116 mX11_choose := ⟨(tb_a6 106 (by decide +kernel) rfl), (tb_a6 107 (by decide +kernel) rfl), (tb_a6 108 (by decide +kernel) rfl)⟩
theorem vRL_117 : MV RL 117 mX10_sale := ⟨(tb_a3 238 (by decide +kernel) rfl), (tb_a3 239 (by decide +kernel) rfl), (tb_a4 0 (by decide +kernel) rfl)⟩
theorem vRL_121 : MV RL 121 mX11_sale := ⟨(tb_a6 110 (by decide +kernel) rfl), (tb_a6 111 (by decide +kernel) rfl), (tb_a6 112 (by decide +kernel) rfl)⟩
theorem vRL_122 : MV RL 122 mX10_sell := ⟨(tb_a4 86 (by decide +kernel) rfl), (tb_a4 87 (by decide +kernel) rfl), (tb_a4 88 (by decide +kernel) rfl)⟩
theorem vRL_125 : MV RL 125 mX11_sell := ⟨(tb_a6 142 (by decide +kernel) rfl), (tb_a6 143 (by decide +kernel) rfl), (tb_a6 144 (by decide +kernel) rfl)⟩
theorem vRL_126 : MV RL 126 mX10_share := ⟨(tb_a4 101 (by decide +kernel) rfl), (tb_a4 102 (by decide +kernel) rfl), (tb_a4 103 (by decide +kernel) rfl)⟩
theorem vRL_130 : MV RL 130 mX11_share := ⟨(tb_a6 146 (by decide +kernel) rfl), (tb_a6 147 (by decide +kernel) rfl), (tb_a6 148 (by decide +kernel) rfl)⟩
theorem vRL_131 : MV RL 131 mX10_tell := ⟨(tb_a4 105 (by decide +kernel) rfl), (tb_a4 106 (by decide +kernel) rfl), (tb_a4 107 (by decide +kernel) rfl)⟩
theorem vRL_134 : MV RL 134 mX11_tell := ⟨(tb_a6 150 (by decide +kernel) rfl), (tb_a6 151 (by decide +kernel) rfl), (tb_a6 152 (by decide +kernel) rfl)⟩
theorem vRL_135 : MV RL 135 mX10_check := ⟨(tb_a4 109 (by decide +kernel) rfl), (tb_a4 110 (by decide +kernel) rfl), (tb_a4 111 (by decide +kernel) rfl)⟩
theorem vRL_139 : MV RL 139 mX11_check := ⟨(tb_a6 154 (by decide +kernel) rfl), (tb_a6 155 (by decide +kernel) rfl), (tb_a6 156 (by decide +kernel) rfl)⟩
theorem vRL_140 : MV RL 140 mX10_circle := ⟨(tb_a4 113 (by decide +kernel) rfl), (tb_a4 114 (by decide +kernel) rfl), (tb_a4 115 (by decide +kernel) rfl)⟩
theorem vRL_143 : MV RL 143 mX11_circle := ⟨(tb_a6 18 (by decide +kernel) rfl), (tb_a6 19 (by decide +kernel) rfl), (tb_a6 20 (by decide +kernel) rfl)⟩
theorem vRL_144 : MV RL 144 mX10_due := ⟨(tb_a4 121 (by decide +kernel) rfl), (tb_a4 122 (by decide +kernel) rfl), (tb_a4 123 (by decide +kernel) rfl)⟩
theorem vRL_147 : MV RL 147 mX11_due := ⟨(tb_a5 111 (by decide +kernel) rfl), (tb_a5 112 (by decide +kernel) rfl), (tb_a5 113 (by decide +kernel) rfl)⟩
theorem vRL_148 : MV RL 148 mX10_kind := ⟨(tb_a4 127 (by decide +kernel) rfl), (tb_a4 128 (by decide +kernel) rfl), (tb_a4 129 (by decide +kernel) rfl)⟩
theorem vRL_151 : MV RL 151 mX11_kind := ⟨(tb_a6 158 (by decide +kernel) rfl), (tb_a6 159 (by decide +kernel) rfl), (tb_a6 160 (by decide +kernel) rfl)⟩
theorem vRL_152 : MV RL 152 mX10_sum := ⟨(tb_a4 131 (by decide +kernel) rfl), (tb_a4 132 (by decide +kernel) rfl), (tb_a4 133 (by decide +kernel) rfl)⟩
theorem vRL_155 : MV RL 155 mX11_sum := ⟨(tb_a6 162 (by decide +kernel) rfl), (tb_a6 163 (by decide +kernel) rfl), (tb_a6 164 (by decide +kernel) rfl)⟩
theorem vRL_156 : MV RL 156 mX10_parcels := ⟨(tb_a4 135 (by decide +kernel) rfl), (tb_a4 136 (by decide +kernel) rfl), (tb_a4 137 (by decide +kernel) rfl)⟩
theorem vRL_159 : MV RL 159 mX11_parcels := ⟨(tb_a6 166 (by decide +kernel) rfl), (tb_a6 167 (by decide +kernel) rfl), (tb_a6 168 (by decide +kernel) rfl)⟩
theorem vRL_160 : MV RL 160 mX10_status := ⟨(tb_a4 139 (by decide +kernel) rfl), (tb_a4 140 (by decide +kernel) rfl), (tb_a4 141 (by decide +kernel) rfl)⟩
theorem vRL_164 : MV RL 164 mX11_status := ⟨(tb_a6 170 (by decide +kernel) rfl), (tb_a6 171 (by decide +kernel) rfl), (tb_a6 172 (by decide +kernel) rfl)⟩
theorem vRL_165 : MV RL 165 mX10_count := ⟨(tb_a4 143 (by decide +kernel) rfl), (tb_a4 144 (by decide +kernel) rfl), (tb_a4 145 (by decide +kernel) rfl)⟩
theorem vRL_168 : MV RL 168 mX11_count := ⟨(tb_a6 174 (by decide +kernel) rfl), (tb_a6 175 (by decide +kernel) rfl), (tb_a6 176 (by decide +kernel) rfl)⟩
abbrev jL_law_18 (X : Cx) (b L : Nat) (xs : Nat → Int32) (rc rs : Nat) (l1 l2 : Nat) (l3 : Int32) (w : Wd) : Prop := EJ X mL_law (lawV b L xs X.2.2.2) rc rs 18 [(0, vR (b + 1)), (1, vR l1), (2, vR l2), (3, vI l3)] [] w
abbrev jL_law_184 (X : Cx) (b L : Nat) (xs : Nat → Int32) (rc rs : Nat) (l1 l2 : Nat) (l3 : Int32) (w : Wd) : Prop := EJ X mL_law (lawV b L xs X.2.2.2) rc rs 184 [(0, vR (b + 1)), (1, vR l1), (2, vR l2), (3, vI l3)] [] w
abbrev jL_law_207 (X : Cx) (b L : Nat) (xs : Nat → Int32) (rc rs : Nat) (l1 l2 : Nat) (l3 : Int32) (w : Wd) : Prop := EJ X mL_law (lawV b L xs X.2.2.2) rc rs 207 [(0, vR (b + 1)), (1, vR l1), (2, vR l2), (3, vI l3)] [] w
abbrev jL_law_240 (X : Cx) (b L : Nat) (xs : Nat → Int32) (rc rs : Nat) (l1 l2 : Nat) (l3 : Int32) (w : Wd) : Prop := EJ X mL_law (lawV b L xs X.2.2.2) rc rs 240 [(0, vR (b + 1)), (1, vR l1), (2, vR l2), (3, vI l3)] [] w
abbrev jL_law_263 (X : Cx) (b L : Nat) (xs : Nat → Int32) (rc rs : Nat) (l1 l2 : Nat) (l3 : Int32) (w : Wd) : Prop := EJ X mL_law (lawV b L xs X.2.2.2) rc rs 263 [(0, vR (b + 1)), (1, vR l1), (2, vR l2), (3, vI l3)] [] w
abbrev jL_law_286 (X : Cx) (b L : Nat) (xs : Nat → Int32) (rc rs : Nat) (l1 l2 : Nat) (l3 : Int32) (w : Wd) : Prop := EJ X mL_law (lawV b L xs X.2.2.2) rc rs 286 [(0, vR (b + 1)), (1, vR l1), (2, vR l2), (3, vI l3)] [] w
abbrev jL_law_413 (X : Cx) (b L : Nat) (xs : Nat → Int32) (rc rs : Nat) (l1 l2 : Nat) (l3 : Int32) (w : Wd) : Prop := EJ X mL_law (lawV b L xs X.2.2.2) rc rs 413 [(0, vR (b + 1)), (1, vR l1), (2, vR l2), (3, vI l3)] [] w
abbrev jL_law_456 (X : Cx) (b L : Nat) (xs : Nat → Int32) (rc rs : Nat) (l1 l2 : Nat) (l3 : Int32) (w : Wd) : Prop := EJ X mL_law (lawV b L xs X.2.2.2) rc rs 456 [(0, vR (b + 1)), (1, vR l1), (2, vR l2), (3, vI l3)] [] w
abbrev jL_law_519 (X : Cx) (b L : Nat) (xs : Nat → Int32) (rc rs : Nat) (l1 l2 : Nat) (l3 : Int32) (w : Wd) : Prop := EJ X mL_law (lawV b L xs X.2.2.2) rc rs 519 [(0, vR (b + 1)), (1, vR l1), (2, vR l2), (3, vI l3)] [] w
abbrev jL_law_583 (X : Cx) (b L : Nat) (xs : Nat → Int32) (rc rs : Nat) (l1 l2 : Nat) (l3 : Int32) (w : Wd) : Prop := EJ X mL_law (lawV b L xs X.2.2.2) rc rs 583 [(0, vR (b + 1)), (1, vR l1), (2, vR l2), (3, vI l3)] [] w
abbrev jL_law_632 (X : Cx) (b L : Nat) (xs : Nat → Int32) (rc rs : Nat) (l1 l2 : Nat) (l3 : Int32) (w : Wd) : Prop := EJ X mL_law (lawV b L xs X.2.2.2) rc rs 632 [(0, vR (b + 1)), (1, vR l1), (2, vR l2), (3, vI l3)] [] w
abbrev jL_law_695 (X : Cx) (b L : Nat) (xs : Nat → Int32) (rc rs : Nat) (l1 l2 : Nat) (l3 : Int32) (w : Wd) : Prop := EJ X mL_law (lawV b L xs X.2.2.2) rc rs 695 [(0, vR (b + 1)), (1, vR l1), (2, vR l2), (3, vI l3)] [] w
abbrev jL_law_768 (X : Cx) (b L : Nat) (xs : Nat → Int32) (rc rs : Nat) (l1 l2 : Nat) (l3 : Int32) (w : Wd) : Prop := EJ X mL_law (lawV b L xs X.2.2.2) rc rs 768 [(0, vR (b + 1)), (1, vR l1), (2, vR l2), (3, vI l3)] [] w
abbrev jL_law_841 (X : Cx) (b L : Nat) (xs : Nat → Int32) (rc rs : Nat) (l1 l2 : Nat) (l3 : Int32) (w : Wd) : Prop := EJ X mL_law (lawV b L xs X.2.2.2) rc rs 841 [(0, vR (b + 1)), (1, vR l1), (2, vR l2), (3, vI l3)] [] w
abbrev jL_law_864 (X : Cx) (b L : Nat) (xs : Nat → Int32) (rc rs : Nat) (l1 l2 : Nat) (l3 : Int32) (w : Wd) : Prop := EJ X mL_law (lawV b L xs X.2.2.2) rc rs 864 [(0, vR (b + 1)), (1, vR l1), (2, vR l2), (3, vI l3)] [] w
abbrev jL_law_897 (X : Cx) (b L : Nat) (xs : Nat → Int32) (rc rs : Nat) (l1 l2 : Nat) (l3 : Int32) (w : Wd) : Prop := EJ X mL_law (lawV b L xs X.2.2.2) rc rs 897 [(0, vR (b + 1)), (1, vR l1), (2, vR l2), (3, vI l3)] [] w
abbrev jL_law_920 (X : Cx) (b L : Nat) (xs : Nat → Int32) (rc rs : Nat) (l1 l2 : Nat) (l3 : Int32) (w : Wd) : Prop := EJ X mL_law (lawV b L xs X.2.2.2) rc rs 920 [(0, vR (b + 1)), (1, vR l1), (2, vR l2), (3, vI l3)] [] w
abbrev jL_law_953 (X : Cx) (b L : Nat) (xs : Nat → Int32) (rc rs : Nat) (l1 l2 : Nat) (l3 : Int32) (w : Wd) : Prop := EJ X mL_law (lawV b L xs X.2.2.2) rc rs 953 [(0, vR (b + 1)), (1, vR l1), (2, vR l2), (3, vI l3)] [] w
abbrev jL_law_986 (X : Cx) (b L : Nat) (xs : Nat → Int32) (rc rs : Nat) (l1 l2 : Nat) (l3 : Int32) (w : Wd) : Prop := EJ X mL_law (lawV b L xs X.2.2.2) rc rs 986 [(0, vR (b + 1)), (1, vR l1), (2, vR l2), (3, vI l3)] [] w
abbrev jL_law_1029 (X : Cx) (b L : Nat) (xs : Nat → Int32) (rc rs : Nat) (l1 l2 : Nat) (l3 : Int32) (w : Wd) : Prop := EJ X mL_law (lawV b L xs X.2.2.2) rc rs 1029 [(0, vR (b + 1)), (1, vR l1), (2, vR l2), (3, vI l3)] [] w
abbrev jL_law_1062 (X : Cx) (b L : Nat) (xs : Nat → Int32) (rc rs : Nat) (l1 l2 : Nat) (l3 : Int32) (w : Wd) : Prop := EJ X mL_law (lawV b L xs X.2.2.2) rc rs 1062 [(0, vR (b + 1)), (1, vR l1), (2, vR l2), (3, vI l3)] [] w
abbrev jL_law_1095 (X : Cx) (b L : Nat) (xs : Nat → Int32) (rc rs : Nat) (l1 l2 : Nat) (l3 : Int32) (w : Wd) : Prop := EJ X mL_law (lawV b L xs X.2.2.2) rc rs 1095 [(0, vR (b + 1)), (1, vR l1), (2, vR l2), (3, vI l3)] [] w
abbrev jL_law_1148 (X : Cx) (b L : Nat) (xs : Nat → Int32) (rc rs : Nat) (l1 l2 : Nat) (l3 : Int32) (w : Wd) : Prop := EJ X mL_law (lawV b L xs X.2.2.2) rc rs 1148 [(0, vR (b + 1)), (1, vR l1), (2, vR l2), (3, vI l3)] [] w
abbrev jL_law_1171 (X : Cx) (b L : Nat) (xs : Nat → Int32) (rc rs : Nat) (l1 l2 : Nat) (l3 : Int32) (w : Wd) : Prop := EJ X mL_law (lawV b L xs X.2.2.2) rc rs 1171 [(0, vR (b + 1)), (1, vR l1), (2, vR l2), (3, vI l3)] [] w
abbrev jL_law_1287 (X : Cx) (b L : Nat) (xs : Nat → Int32) (rc rs : Nat) (l1 l2 : Nat) (l3 : Int32) (w : Wd) : Prop := EJ X mL_law (lawV b L xs X.2.2.2) rc rs 1287 [(0, vR (b + 1)), (1, vR l1), (2, vR l2), (3, vI l3)] [] w
abbrev jL_law_1403 (X : Cx) (b L : Nat) (xs : Nat → Int32) (rc rs : Nat) (l1 l2 : Nat) (l3 : Int32) (w : Wd) : Prop := EJ X mL_law (lawV b L xs X.2.2.2) rc rs 1403 [(0, vR (b + 1)), (1, vR l1), (2, vR l2), (3, vI l3)] [] w
abbrev jL_law_1427 (X : Cx) (b L : Nat) (xs : Nat → Int32) (rc rs : Nat) (l1 l2 : Nat) (l3 : Int32) (w : Wd) : Prop := EJ X mL_law (lawV b L xs X.2.2.2) rc rs 1427 [(0, vR (b + 1)), (1, vR l1), (2, vR l2), (3, vI l3)] [] w
abbrev jL_law_1490 (X : Cx) (b L : Nat) (xs : Nat → Int32) (rc rs : Nat) (l1 l2 : Nat) (l3 : Int32) (w : Wd) : Prop := EJ X mL_law (lawV b L xs X.2.2.2) rc rs 1490 [(0, vR (b + 1)), (1, vR l1), (2, vR l2), (3, vI l3)] [] w
abbrev jL_law_1543 (X : Cx) (b L : Nat) (xs : Nat → Int32) (rc rs : Nat) (l1 l2 : Nat) (l3 : Int32) (w : Wd) : Prop := EJ X mL_law (lawV b L xs X.2.2.2) rc rs 1543 [(0, vR (b + 1)), (1, vR l1), (2, vR l2), (3, vI l3)] [] w
abbrev jL_law_1566 (X : Cx) (b L : Nat) (xs : Nat → Int32) (rc rs : Nat) (l1 l2 : Nat) (l3 : Int32) (w : Wd) : Prop := EJ X mL_law (lawV b L xs X.2.2.2) rc rs 1566 [(0, vR (b + 1)), (1, vR l1), (2, vR l2), (3, vI l3)] [] w
abbrev jL_law_1590 (X : Cx) (b L : Nat) (xs : Nat → Int32) (rc rs : Nat) (l1 l2 : Nat) (l3 : Int32) (w : Wd) : Prop := EJ X mL_law (lawV b L xs X.2.2.2) rc rs 1590 [(0, vR (b + 1)), (1, vR l1), (2, vR l2), (3, vI l3)] [] w
abbrev jL_law_1623 (X : Cx) (b L : Nat) (xs : Nat → Int32) (rc rs : Nat) (l1 l2 : Nat) (l3 : Int32) (w : Wd) : Prop := EJ X mL_law (lawV b L xs X.2.2.2) rc rs 1623 [(0, vR (b + 1)), (1, vR l1), (2, vR l2), (3, vI l3)] [] w
abbrev jL_law_1647 (X : Cx) (b L : Nat) (xs : Nat → Int32) (rc rs : Nat) (l1 l2 : Nat) (l3 : Int32) (w : Wd) : Prop := EJ X mL_law (lawV b L xs X.2.2.2) rc rs 1647 [(0, vR (b + 1)), (1, vR l1), (2, vR l2), (3, vI l3)] [] w
abbrev jL_law_1671 (X : Cx) (b L : Nat) (xs : Nat → Int32) (rc rs : Nat) (l1 l2 : Nat) (l3 : Int32) (w : Wd) : Prop := EJ X mL_law (lawV b L xs X.2.2.2) rc rs 1671 [(0, vR (b + 1)), (1, vR l1), (2, vR l2), (3, vI l3)] [] w
abbrev jL_law_1684 (X : Cx) (b L : Nat) (xs : Nat → Int32) (rc rs : Nat) (l1 l2 : Nat) (l3 : Int32) (w : Wd) : Prop := EJ X mL_law (lawV b L xs X.2.2.2) rc rs 1684 [(0, vR (b + 1)), (1, vR l1), (2, vR l2), (3, vI l3)] [] w
abbrev jL_law_1707 (X : Cx) (b L : Nat) (xs : Nat → Int32) (rc rs : Nat) (l1 l2 : Nat) (l3 : Int32) (w : Wd) : Prop := EJ X mL_law (lawV b L xs X.2.2.2) rc rs 1707 [(0, vR (b + 1)), (1, vR l1), (2, vR l2), (3, vI l3)] [] w
set_option maxRecDepth 100000 in
set_option maxHeartbeats 4000000 in
theorem tL_law_1707 (X : Cx) (b L : Nat) (xs : Nat → Int32) (rc rs : Nat) (l1 l2 : Nat) (l3 : Int32) (w : Wd)
    (hv : jL_law_18 X b L xs rc rs l1 l2 (l3 + 8) w) :
    jL_law_1707 X b L xs rc rs l1 l2 l3 w := by
  refine e_iinc (pc := 1707) (v := l3 + 8) (lv' := [(0, vR (b + 1)), (1, vR l1), (2, vR l2), (3, vI (l3 + 8))]) dL_law_1707 rfl rfl (by decide) rfl ?_
  refine e_goto (pc := 1710) (tgt := 18) dL_law_1710 (by decide) ?_
  exact hv
set_option maxRecDepth 100000 in
set_option maxHeartbeats 4000000 in
theorem tL_law_1684 (X : Cx) (b L : Nat) (xs : Nat → Int32) (rc rs : Nat) (l1 l2 : Nat) (l3 : Int32) (w : Wd)
    (hv : vp_in (l3 + 1) L ∧ wK w l1 = 11 ∧ Ct X bX10_count mX10_count [vR l1, vI (xs (l3 + 1).toNatClampNeg)] w (qI fun x3 w2 => vp_in (l3 + 1) L ∧ wK w2 l2 = 12 ∧ Ct X bX11_count mX11_count [vR l2, vI (xs (l3 + 1).toNatClampNeg)] w2 (qI fun x7 w6 => ((x3 = x7) → jL_law_1707 X b L xs rc rs l1 l2 l3 w6) ∧ ((¬ x3 = x7) → False)))) :
    jL_law_1684 X b L xs rc rs l1 l2 l3 w := by
  refine e_aload_n (pc := 1684) (i := 1) dL_law_1684 rfl rfl ?_
  refine e_aload_n (pc := 1685) (i := 0) dL_law_1685 rfl rfl ?_
  refine e_iload_n (pc := 1686) (i := 3) dL_law_1686 rfl rfl ?_
  refine e_iconst (pc := 1687) (v := 1) dL_law_1687 (by decide) ?_
  refine e_iadd (pc := 1688) dL_law_1688 ?_
  have hi1 := hv.1
  replace hv := hv.2
  refine l_sld (pc := 1689) dL_law_1689 hi1 ?_
  have k4 := hv.1
  replace hv := hv.2
  refine e_callVi (pc := 1690) (ci := 10) (st := []) (rc' := rc) (rs' := rs) (B' := bX10_count) [vI (xs (l3 + 1).toNatClampNeg)] dL_law_1690 vRL_165 kX10_count (by decide) rfl k4 rfl rfl (Nat.le_of_ble_eq_true rfl) ⟨Nat.le_of_ble_eq_true rfl, Nat.le_of_ble_eq_true rfl⟩ rfl rfl hv (fun x3 w2 hv => ?_)
  refine e_aload_n (pc := 1693) (i := 2) dL_law_1693 rfl rfl ?_
  refine e_aload_n (pc := 1694) (i := 0) dL_law_1694 rfl rfl ?_
  refine e_iload_n (pc := 1695) (i := 3) dL_law_1695 rfl rfl ?_
  refine e_iconst (pc := 1696) (v := 1) dL_law_1696 (by decide) ?_
  refine e_iadd (pc := 1697) dL_law_1697 ?_
  have hi5 := hv.1
  replace hv := hv.2
  refine l_sld (pc := 1698) dL_law_1698 hi5 ?_
  have k8 := hv.1
  replace hv := hv.2
  refine e_callVi (pc := 1699) (ci := 11) (st := [vI x3]) (rc' := rc) (rs' := rs) (B' := bX11_count) [vI (xs (l3 + 1).toNatClampNeg)] dL_law_1699 vRL_168 kX11_count (by decide) rfl k8 rfl rfl (Nat.le_of_ble_eq_true rfl) ⟨Nat.le_of_ble_eq_true rfl, Nat.le_of_ble_eq_true rfl⟩ rfl rfl hv (fun x7 w6 hv => ?_)
  refine e_icmp_eq (pc := 1702) (tgt := 1707) dL_law_1702 (by decide) (fun h9 => ?_) (fun h9 => ?_)
  · replace hv := hv.1 h9
    exact hv
  · replace hv := hv.2 h9
    refine e_iconst (pc := 1705) (v := 0) dL_law_1705 (by decide) ?_
    exact hv.elim
set_option maxRecDepth 100000 in
set_option maxHeartbeats 4000000 in
theorem tL_law_1671 (X : Cx) (b L : Nat) (xs : Nat → Int32) (rc rs : Nat) (l1 l2 : Nat) (l3 : Int32) (w : Wd)
    (hv : wK w l1 = 11 ∧ Ct X bX10_status mX10_status [vR l1] w (qI fun x2 w1 => wK w1 l2 = 12 ∧ Ct X bX11_status mX11_status [vR l2] w1 (qI fun x5 w4 => ((x2 = x5) → jL_law_1707 X b L xs rc rs l1 l2 l3 w4) ∧ ((¬ x2 = x5) → False)))) :
    jL_law_1671 X b L xs rc rs l1 l2 l3 w := by
  refine e_aload_n (pc := 1671) (i := 1) dL_law_1671 rfl rfl ?_
  have k3 := hv.1
  replace hv := hv.2
  refine e_callVi (pc := 1672) (ci := 10) (st := []) (rc' := rc) (rs' := rs) (B' := bX10_status) [] dL_law_1672 vRL_160 kX10_status (by decide) rfl k3 rfl rfl (Nat.le_of_ble_eq_true rfl) ⟨Nat.le_of_ble_eq_true rfl, Nat.le_of_ble_eq_true rfl⟩ rfl rfl hv (fun x2 w1 hv => ?_)
  refine e_aload_n (pc := 1675) (i := 2) dL_law_1675 rfl rfl ?_
  have k6 := hv.1
  replace hv := hv.2
  refine e_callVi (pc := 1676) (ci := 11) (st := [vI x2]) (rc' := rc) (rs' := rs) (B' := bX11_status) [] dL_law_1676 vRL_164 kX11_status (by decide) rfl k6 rfl rfl (Nat.le_of_ble_eq_true rfl) ⟨Nat.le_of_ble_eq_true rfl, Nat.le_of_ble_eq_true rfl⟩ rfl rfl hv (fun x5 w4 hv => ?_)
  refine e_icmp_eq (pc := 1679) (tgt := 1707) dL_law_1679 (by decide) (fun h7 => ?_) (fun h7 => ?_)
  · replace hv := hv.1 h7
    exact hv
  · replace hv := hv.2 h7
    refine e_iconst (pc := 1682) (v := 0) dL_law_1682 (by decide) ?_
    exact hv.elim
set_option maxRecDepth 100000 in
set_option maxHeartbeats 4000000 in
theorem tL_law_1647 (X : Cx) (b L : Nat) (xs : Nat → Int32) (rc rs : Nat) (l1 l2 : Nat) (l3 : Int32) (w : Wd)
    (hv : vp_in (l3 + 1) L ∧ wK w l1 = 11 ∧ Ct X bX10_parcels mX10_parcels [vR l1, vI (xs (l3 + 1).toNatClampNeg)] w (qJ fun x3 w2 => vp_in (l3 + 1) L ∧ wK w2 l2 = 12 ∧ Ct X bX11_parcels mX11_parcels [vR l2, vI (xs (l3 + 1).toNatClampNeg)] w2 (qJ fun x7 w6 => (((lg_cmp x3 x7) = 0) → jL_law_1707 X b L xs rc rs l1 l2 l3 w6) ∧ ((¬ (lg_cmp x3 x7) = 0) → False)))) :
    jL_law_1647 X b L xs rc rs l1 l2 l3 w := by
  refine e_aload_n (pc := 1647) (i := 1) dL_law_1647 rfl rfl ?_
  refine e_aload_n (pc := 1648) (i := 0) dL_law_1648 rfl rfl ?_
  refine e_iload_n (pc := 1649) (i := 3) dL_law_1649 rfl rfl ?_
  refine e_iconst (pc := 1650) (v := 1) dL_law_1650 (by decide) ?_
  refine e_iadd (pc := 1651) dL_law_1651 ?_
  have hi1 := hv.1
  replace hv := hv.2
  refine l_sld (pc := 1652) dL_law_1652 hi1 ?_
  have k4 := hv.1
  replace hv := hv.2
  refine e_callVj (pc := 1653) (ci := 10) (st := []) (rc' := rc) (rs' := rs) (B' := bX10_parcels) [vI (xs (l3 + 1).toNatClampNeg)] dL_law_1653 vRL_156 kX10_parcels (by decide) rfl k4 rfl rfl (Nat.le_of_ble_eq_true rfl) ⟨Nat.le_of_ble_eq_true rfl, Nat.le_of_ble_eq_true rfl⟩ rfl rfl hv (fun x3 w2 hv => ?_)
  refine e_aload_n (pc := 1656) (i := 2) dL_law_1656 rfl rfl ?_
  refine e_aload_n (pc := 1657) (i := 0) dL_law_1657 rfl rfl ?_
  refine e_iload_n (pc := 1658) (i := 3) dL_law_1658 rfl rfl ?_
  refine e_iconst (pc := 1659) (v := 1) dL_law_1659 (by decide) ?_
  refine e_iadd (pc := 1660) dL_law_1660 ?_
  have hi5 := hv.1
  replace hv := hv.2
  refine l_sld (pc := 1661) dL_law_1661 hi5 ?_
  have k8 := hv.1
  replace hv := hv.2
  refine e_callVj (pc := 1662) (ci := 11) (st := [vJ x3]) (rc' := rc) (rs' := rs) (B' := bX11_parcels) [vI (xs (l3 + 1).toNatClampNeg)] dL_law_1662 vRL_159 kX11_parcels (by decide) rfl k8 rfl rfl (Nat.le_of_ble_eq_true rfl) ⟨Nat.le_of_ble_eq_true rfl, Nat.le_of_ble_eq_true rfl⟩ rfl rfl hv (fun x7 w6 hv => ?_)
  refine e_lcmp (pc := 1665) dL_law_1665 ?_
  refine e_if_eq (pc := 1666) (tgt := 1707) dL_law_1666 (by decide) (fun h9 => ?_) (fun h9 => ?_)
  · replace hv := hv.1 h9
    exact hv
  · replace hv := hv.2 h9
    refine e_iconst (pc := 1669) (v := 0) dL_law_1669 (by decide) ?_
    exact hv.elim
set_option maxRecDepth 100000 in
set_option maxHeartbeats 4000000 in
theorem tL_law_1623 (X : Cx) (b L : Nat) (xs : Nat → Int32) (rc rs : Nat) (l1 l2 : Nat) (l3 : Int32) (w : Wd)
    (hv : vp_in (l3 + 1) L ∧ wK w l1 = 11 ∧ Ct X bX10_sum mX10_sum [vR l1, vI (xs (l3 + 1).toNatClampNeg)] w (qJ fun x3 w2 => vp_in (l3 + 1) L ∧ wK w2 l2 = 12 ∧ Ct X bX11_sum mX11_sum [vR l2, vI (xs (l3 + 1).toNatClampNeg)] w2 (qJ fun x7 w6 => (((lg_cmp x3 x7) = 0) → jL_law_1707 X b L xs rc rs l1 l2 l3 w6) ∧ ((¬ (lg_cmp x3 x7) = 0) → False)))) :
    jL_law_1623 X b L xs rc rs l1 l2 l3 w := by
  refine e_aload_n (pc := 1623) (i := 1) dL_law_1623 rfl rfl ?_
  refine e_aload_n (pc := 1624) (i := 0) dL_law_1624 rfl rfl ?_
  refine e_iload_n (pc := 1625) (i := 3) dL_law_1625 rfl rfl ?_
  refine e_iconst (pc := 1626) (v := 1) dL_law_1626 (by decide) ?_
  refine e_iadd (pc := 1627) dL_law_1627 ?_
  have hi1 := hv.1
  replace hv := hv.2
  refine l_sld (pc := 1628) dL_law_1628 hi1 ?_
  have k4 := hv.1
  replace hv := hv.2
  refine e_callVj (pc := 1629) (ci := 10) (st := []) (rc' := rc) (rs' := rs) (B' := bX10_sum) [vI (xs (l3 + 1).toNatClampNeg)] dL_law_1629 vRL_152 kX10_sum (by decide) rfl k4 rfl rfl (Nat.le_of_ble_eq_true rfl) ⟨Nat.le_of_ble_eq_true rfl, Nat.le_of_ble_eq_true rfl⟩ rfl rfl hv (fun x3 w2 hv => ?_)
  refine e_aload_n (pc := 1632) (i := 2) dL_law_1632 rfl rfl ?_
  refine e_aload_n (pc := 1633) (i := 0) dL_law_1633 rfl rfl ?_
  refine e_iload_n (pc := 1634) (i := 3) dL_law_1634 rfl rfl ?_
  refine e_iconst (pc := 1635) (v := 1) dL_law_1635 (by decide) ?_
  refine e_iadd (pc := 1636) dL_law_1636 ?_
  have hi5 := hv.1
  replace hv := hv.2
  refine l_sld (pc := 1637) dL_law_1637 hi5 ?_
  have k8 := hv.1
  replace hv := hv.2
  refine e_callVj (pc := 1638) (ci := 11) (st := [vJ x3]) (rc' := rc) (rs' := rs) (B' := bX11_sum) [vI (xs (l3 + 1).toNatClampNeg)] dL_law_1638 vRL_155 kX11_sum (by decide) rfl k8 rfl rfl (Nat.le_of_ble_eq_true rfl) ⟨Nat.le_of_ble_eq_true rfl, Nat.le_of_ble_eq_true rfl⟩ rfl rfl hv (fun x7 w6 hv => ?_)
  refine e_lcmp (pc := 1641) dL_law_1641 ?_
  refine e_if_eq (pc := 1642) (tgt := 1707) dL_law_1642 (by decide) (fun h9 => ?_) (fun h9 => ?_)
  · replace hv := hv.1 h9
    exact hv
  · replace hv := hv.2 h9
    refine e_iconst (pc := 1645) (v := 0) dL_law_1645 (by decide) ?_
    exact hv.elim
set_option maxRecDepth 100000 in
set_option maxHeartbeats 4000000 in
theorem tL_law_1590 (X : Cx) (b L : Nat) (xs : Nat → Int32) (rc rs : Nat) (l1 l2 : Nat) (l3 : Int32) (w : Wd)
    (hv : vp_in (l3 + 1) L ∧ vp_in (l3 + 2) L ∧ wK w l1 = 11 ∧ Ct X bX10_kind mX10_kind [vR l1, vI (xs (l3 + 1).toNatClampNeg), vI (xs (l3 + 2).toNatClampNeg)] w (qI fun x4 w3 => vp_in (l3 + 1) L ∧ vp_in (l3 + 2) L ∧ wK w3 l2 = 12 ∧ Ct X bX11_kind mX11_kind [vR l2, vI (xs (l3 + 1).toNatClampNeg), vI (xs (l3 + 2).toNatClampNeg)] w3 (qI fun x9 w8 => ((x4 = x9) → jL_law_1707 X b L xs rc rs l1 l2 l3 w8) ∧ ((¬ x4 = x9) → False)))) :
    jL_law_1590 X b L xs rc rs l1 l2 l3 w := by
  refine e_aload_n (pc := 1590) (i := 1) dL_law_1590 rfl rfl ?_
  refine e_aload_n (pc := 1591) (i := 0) dL_law_1591 rfl rfl ?_
  refine e_iload_n (pc := 1592) (i := 3) dL_law_1592 rfl rfl ?_
  refine e_iconst (pc := 1593) (v := 1) dL_law_1593 (by decide) ?_
  refine e_iadd (pc := 1594) dL_law_1594 ?_
  have hi1 := hv.1
  replace hv := hv.2
  refine l_sld (pc := 1595) dL_law_1595 hi1 ?_
  refine e_aload_n (pc := 1596) (i := 0) dL_law_1596 rfl rfl ?_
  refine e_iload_n (pc := 1597) (i := 3) dL_law_1597 rfl rfl ?_
  refine e_iconst (pc := 1598) (v := 2) dL_law_1598 (by decide) ?_
  refine e_iadd (pc := 1599) dL_law_1599 ?_
  have hi2 := hv.1
  replace hv := hv.2
  refine l_sld (pc := 1600) dL_law_1600 hi2 ?_
  have k5 := hv.1
  replace hv := hv.2
  refine e_callVi (pc := 1601) (ci := 10) (st := []) (rc' := rc) (rs' := rs) (B' := bX10_kind) [vI (xs (l3 + 1).toNatClampNeg), vI (xs (l3 + 2).toNatClampNeg)] dL_law_1601 vRL_148 kX10_kind (by decide) rfl k5 rfl rfl (Nat.le_of_ble_eq_true rfl) ⟨Nat.le_of_ble_eq_true rfl, Nat.le_of_ble_eq_true rfl⟩ rfl rfl hv (fun x4 w3 hv => ?_)
  refine e_aload_n (pc := 1604) (i := 2) dL_law_1604 rfl rfl ?_
  refine e_aload_n (pc := 1605) (i := 0) dL_law_1605 rfl rfl ?_
  refine e_iload_n (pc := 1606) (i := 3) dL_law_1606 rfl rfl ?_
  refine e_iconst (pc := 1607) (v := 1) dL_law_1607 (by decide) ?_
  refine e_iadd (pc := 1608) dL_law_1608 ?_
  have hi6 := hv.1
  replace hv := hv.2
  refine l_sld (pc := 1609) dL_law_1609 hi6 ?_
  refine e_aload_n (pc := 1610) (i := 0) dL_law_1610 rfl rfl ?_
  refine e_iload_n (pc := 1611) (i := 3) dL_law_1611 rfl rfl ?_
  refine e_iconst (pc := 1612) (v := 2) dL_law_1612 (by decide) ?_
  refine e_iadd (pc := 1613) dL_law_1613 ?_
  have hi7 := hv.1
  replace hv := hv.2
  refine l_sld (pc := 1614) dL_law_1614 hi7 ?_
  have k10 := hv.1
  replace hv := hv.2
  refine e_callVi (pc := 1615) (ci := 11) (st := [vI x4]) (rc' := rc) (rs' := rs) (B' := bX11_kind) [vI (xs (l3 + 1).toNatClampNeg), vI (xs (l3 + 2).toNatClampNeg)] dL_law_1615 vRL_151 kX11_kind (by decide) rfl k10 rfl rfl (Nat.le_of_ble_eq_true rfl) ⟨Nat.le_of_ble_eq_true rfl, Nat.le_of_ble_eq_true rfl⟩ rfl rfl hv (fun x9 w8 hv => ?_)
  refine e_icmp_eq (pc := 1618) (tgt := 1707) dL_law_1618 (by decide) (fun h11 => ?_) (fun h11 => ?_)
  · replace hv := hv.1 h11
    exact hv
  · replace hv := hv.2 h11
    refine e_iconst (pc := 1621) (v := 0) dL_law_1621 (by decide) ?_
    exact hv.elim
set_option maxRecDepth 100000 in
set_option maxHeartbeats 4000000 in
theorem tL_law_1566 (X : Cx) (b L : Nat) (xs : Nat → Int32) (rc rs : Nat) (l1 l2 : Nat) (l3 : Int32) (w : Wd)
    (hv : vp_in (l3 + 1) L ∧ wK w l1 = 11 ∧ Ct X bX10_due mX10_due [vR l1, vI (xs (l3 + 1).toNatClampNeg)] w (qJ fun x3 w2 => vp_in (l3 + 1) L ∧ wK w2 l2 = 12 ∧ Ct X bX11_due mX11_due [vR l2, vI (xs (l3 + 1).toNatClampNeg)] w2 (qJ fun x7 w6 => (((lg_cmp x3 x7) = 0) → jL_law_1707 X b L xs rc rs l1 l2 l3 w6) ∧ ((¬ (lg_cmp x3 x7) = 0) → False)))) :
    jL_law_1566 X b L xs rc rs l1 l2 l3 w := by
  refine e_aload_n (pc := 1566) (i := 1) dL_law_1566 rfl rfl ?_
  refine e_aload_n (pc := 1567) (i := 0) dL_law_1567 rfl rfl ?_
  refine e_iload_n (pc := 1568) (i := 3) dL_law_1568 rfl rfl ?_
  refine e_iconst (pc := 1569) (v := 1) dL_law_1569 (by decide) ?_
  refine e_iadd (pc := 1570) dL_law_1570 ?_
  have hi1 := hv.1
  replace hv := hv.2
  refine l_sld (pc := 1571) dL_law_1571 hi1 ?_
  have k4 := hv.1
  replace hv := hv.2
  refine e_callVj (pc := 1572) (ci := 10) (st := []) (rc' := rc) (rs' := rs) (B' := bX10_due) [vI (xs (l3 + 1).toNatClampNeg)] dL_law_1572 vRL_144 kX10_due (by decide) rfl k4 rfl rfl (Nat.le_of_ble_eq_true rfl) ⟨Nat.le_of_ble_eq_true rfl, Nat.le_of_ble_eq_true rfl⟩ rfl rfl hv (fun x3 w2 hv => ?_)
  refine e_aload_n (pc := 1575) (i := 2) dL_law_1575 rfl rfl ?_
  refine e_aload_n (pc := 1576) (i := 0) dL_law_1576 rfl rfl ?_
  refine e_iload_n (pc := 1577) (i := 3) dL_law_1577 rfl rfl ?_
  refine e_iconst (pc := 1578) (v := 1) dL_law_1578 (by decide) ?_
  refine e_iadd (pc := 1579) dL_law_1579 ?_
  have hi5 := hv.1
  replace hv := hv.2
  refine l_sld (pc := 1580) dL_law_1580 hi5 ?_
  have k8 := hv.1
  replace hv := hv.2
  refine e_callVj (pc := 1581) (ci := 11) (st := [vJ x3]) (rc' := rc) (rs' := rs) (B' := bX11_due) [vI (xs (l3 + 1).toNatClampNeg)] dL_law_1581 vRL_147 kX11_due (by decide) rfl k8 rfl rfl (Nat.le_of_ble_eq_true rfl) ⟨Nat.le_of_ble_eq_true rfl, Nat.le_of_ble_eq_true rfl⟩ rfl rfl hv (fun x7 w6 hv => ?_)
  refine e_lcmp (pc := 1584) dL_law_1584 ?_
  refine e_if_eq (pc := 1585) (tgt := 1707) dL_law_1585 (by decide) (fun h9 => ?_) (fun h9 => ?_)
  · replace hv := hv.1 h9
    exact hv
  · replace hv := hv.2 h9
    refine e_iconst (pc := 1588) (v := 0) dL_law_1588 (by decide) ?_
    exact hv.elim
set_option maxRecDepth 100000 in
set_option maxHeartbeats 4000000 in
theorem tL_law_1543 (X : Cx) (b L : Nat) (xs : Nat → Int32) (rc rs : Nat) (l1 l2 : Nat) (l3 : Int32) (w : Wd)
    (hv : vp_in (l3 + 1) L ∧ wK w l1 = 11 ∧ Ct X bX10_circle mX10_circle [vR l1, vI (xs (l3 + 1).toNatClampNeg)] w (qI fun x3 w2 => vp_in (l3 + 1) L ∧ wK w2 l2 = 12 ∧ Ct X bX11_circle mX11_circle [vR l2, vI (xs (l3 + 1).toNatClampNeg)] w2 (qI fun x7 w6 => ((x3 = x7) → jL_law_1707 X b L xs rc rs l1 l2 l3 w6) ∧ ((¬ x3 = x7) → False)))) :
    jL_law_1543 X b L xs rc rs l1 l2 l3 w := by
  refine e_aload_n (pc := 1543) (i := 1) dL_law_1543 rfl rfl ?_
  refine e_aload_n (pc := 1544) (i := 0) dL_law_1544 rfl rfl ?_
  refine e_iload_n (pc := 1545) (i := 3) dL_law_1545 rfl rfl ?_
  refine e_iconst (pc := 1546) (v := 1) dL_law_1546 (by decide) ?_
  refine e_iadd (pc := 1547) dL_law_1547 ?_
  have hi1 := hv.1
  replace hv := hv.2
  refine l_sld (pc := 1548) dL_law_1548 hi1 ?_
  have k4 := hv.1
  replace hv := hv.2
  refine e_callVi (pc := 1549) (ci := 10) (st := []) (rc' := rc) (rs' := rs) (B' := bX10_circle) [vI (xs (l3 + 1).toNatClampNeg)] dL_law_1549 vRL_140 kX10_circle (by decide) rfl k4 rfl rfl (Nat.le_of_ble_eq_true rfl) ⟨Nat.le_of_ble_eq_true rfl, Nat.le_of_ble_eq_true rfl⟩ rfl rfl hv (fun x3 w2 hv => ?_)
  refine e_aload_n (pc := 1552) (i := 2) dL_law_1552 rfl rfl ?_
  refine e_aload_n (pc := 1553) (i := 0) dL_law_1553 rfl rfl ?_
  refine e_iload_n (pc := 1554) (i := 3) dL_law_1554 rfl rfl ?_
  refine e_iconst (pc := 1555) (v := 1) dL_law_1555 (by decide) ?_
  refine e_iadd (pc := 1556) dL_law_1556 ?_
  have hi5 := hv.1
  replace hv := hv.2
  refine l_sld (pc := 1557) dL_law_1557 hi5 ?_
  have k8 := hv.1
  replace hv := hv.2
  refine e_callVi (pc := 1558) (ci := 11) (st := [vI x3]) (rc' := rc) (rs' := rs) (B' := bX11_circle) [vI (xs (l3 + 1).toNatClampNeg)] dL_law_1558 vRL_143 kX11_circle (by decide) rfl k8 rfl rfl (Nat.le_of_ble_eq_true rfl) ⟨Nat.le_of_ble_eq_true rfl, Nat.le_of_ble_eq_true rfl⟩ rfl rfl hv (fun x7 w6 hv => ?_)
  refine e_icmp_eq (pc := 1561) (tgt := 1707) dL_law_1561 (by decide) (fun h9 => ?_) (fun h9 => ?_)
  · replace hv := hv.1 h9
    exact hv
  · replace hv := hv.2 h9
    refine e_iconst (pc := 1564) (v := 0) dL_law_1564 (by decide) ?_
    exact hv.elim
set_option maxRecDepth 100000 in
set_option maxHeartbeats 4000000 in
theorem tL_law_1490 (X : Cx) (b L : Nat) (xs : Nat → Int32) (rc rs : Nat) (l1 l2 : Nat) (l3 : Int32) (w : Wd)
    (hv : vp_in (l3 + 1) L ∧ vp_in (l3 + 2) L ∧ wK w l1 = 11 ∧ Ct X bX10_check mX10_check [vR l1, vJ ((((xs (l3 + 1).toNatClampNeg).toInt64) <<< ((32 : Int32).toInt64 &&& 63)) ||| (((xs (l3 + 2).toNatClampNeg).toInt64) &&& 4294967295))] w (qI fun x4 w3 => vp_in (l3 + 1) L ∧ vp_in (l3 + 2) L ∧ wK w3 l2 = 12 ∧ Ct X bX11_check mX11_check [vR l2, vJ ((((xs (l3 + 1).toNatClampNeg).toInt64) <<< ((32 : Int32).toInt64 &&& 63)) ||| (((xs (l3 + 2).toNatClampNeg).toInt64) &&& 4294967295))] w3 (qI fun x9 w8 => ((x4 = x9) → jL_law_1707 X b L xs rc rs l1 l2 l3 w8) ∧ ((¬ x4 = x9) → False)))) :
    jL_law_1490 X b L xs rc rs l1 l2 l3 w := by
  refine e_aload_n (pc := 1490) (i := 1) dL_law_1490 rfl rfl ?_
  refine e_aload_n (pc := 1491) (i := 0) dL_law_1491 rfl rfl ?_
  refine e_iload_n (pc := 1492) (i := 3) dL_law_1492 rfl rfl ?_
  refine e_iconst (pc := 1493) (v := 1) dL_law_1493 (by decide) ?_
  refine e_iadd (pc := 1494) dL_law_1494 ?_
  have hi1 := hv.1
  replace hv := hv.2
  refine l_sld (pc := 1495) dL_law_1495 hi1 ?_
  refine e_i2l (pc := 1496) dL_law_1496 ?_
  refine e_bipush (pc := 1497) (v := 32) dL_law_1497 (by decide) ?_
  refine e_lshl (pc := 1499) dL_law_1499 ?_
  refine e_aload_n (pc := 1500) (i := 0) dL_law_1500 rfl rfl ?_
  refine e_iload_n (pc := 1501) (i := 3) dL_law_1501 rfl rfl ?_
  refine e_iconst (pc := 1502) (v := 2) dL_law_1502 (by decide) ?_
  refine e_iadd (pc := 1503) dL_law_1503 ?_
  have hi2 := hv.1
  replace hv := hv.2
  refine l_sld (pc := 1504) dL_law_1504 hi2 ?_
  refine e_i2l (pc := 1505) dL_law_1505 ?_
  refine e_ldc2 (pc := 1506) (v := 4294967295) dL_law_1506 (tb_a6 178 (by decide +kernel) rfl) ?_
  refine e_land (pc := 1509) dL_law_1509 ?_
  refine e_lor (pc := 1510) dL_law_1510 ?_
  have k5 := hv.1
  replace hv := hv.2
  refine e_callVi (pc := 1511) (ci := 10) (st := []) (rc' := rc) (rs' := rs) (B' := bX10_check) [vJ ((((xs (l3 + 1).toNatClampNeg).toInt64) <<< ((32 : Int32).toInt64 &&& 63)) ||| (((xs (l3 + 2).toNatClampNeg).toInt64) &&& 4294967295))] dL_law_1511 vRL_135 kX10_check (by decide) rfl k5 rfl rfl (Nat.le_of_ble_eq_true rfl) ⟨Nat.le_of_ble_eq_true rfl, Nat.le_of_ble_eq_true rfl⟩ rfl rfl hv (fun x4 w3 hv => ?_)
  refine e_aload_n (pc := 1514) (i := 2) dL_law_1514 rfl rfl ?_
  refine e_aload_n (pc := 1515) (i := 0) dL_law_1515 rfl rfl ?_
  refine e_iload_n (pc := 1516) (i := 3) dL_law_1516 rfl rfl ?_
  refine e_iconst (pc := 1517) (v := 1) dL_law_1517 (by decide) ?_
  refine e_iadd (pc := 1518) dL_law_1518 ?_
  have hi6 := hv.1
  replace hv := hv.2
  refine l_sld (pc := 1519) dL_law_1519 hi6 ?_
  refine e_i2l (pc := 1520) dL_law_1520 ?_
  refine e_bipush (pc := 1521) (v := 32) dL_law_1521 (by decide) ?_
  refine e_lshl (pc := 1523) dL_law_1523 ?_
  refine e_aload_n (pc := 1524) (i := 0) dL_law_1524 rfl rfl ?_
  refine e_iload_n (pc := 1525) (i := 3) dL_law_1525 rfl rfl ?_
  refine e_iconst (pc := 1526) (v := 2) dL_law_1526 (by decide) ?_
  refine e_iadd (pc := 1527) dL_law_1527 ?_
  have hi7 := hv.1
  replace hv := hv.2
  refine l_sld (pc := 1528) dL_law_1528 hi7 ?_
  refine e_i2l (pc := 1529) dL_law_1529 ?_
  refine e_ldc2 (pc := 1530) (v := 4294967295) dL_law_1530 (tb_a6 178 (by decide +kernel) rfl) ?_
  refine e_land (pc := 1533) dL_law_1533 ?_
  refine e_lor (pc := 1534) dL_law_1534 ?_
  have k10 := hv.1
  replace hv := hv.2
  refine e_callVi (pc := 1535) (ci := 11) (st := [vI x4]) (rc' := rc) (rs' := rs) (B' := bX11_check) [vJ ((((xs (l3 + 1).toNatClampNeg).toInt64) <<< ((32 : Int32).toInt64 &&& 63)) ||| (((xs (l3 + 2).toNatClampNeg).toInt64) &&& 4294967295))] dL_law_1535 vRL_139 kX11_check (by decide) rfl k10 rfl rfl (Nat.le_of_ble_eq_true rfl) ⟨Nat.le_of_ble_eq_true rfl, Nat.le_of_ble_eq_true rfl⟩ rfl rfl hv (fun x9 w8 hv => ?_)
  refine e_icmp_eq (pc := 1538) (tgt := 1707) dL_law_1538 (by decide) (fun h11 => ?_) (fun h11 => ?_)
  · replace hv := hv.1 h11
    exact hv
  · replace hv := hv.2 h11
    refine e_iconst (pc := 1541) (v := 0) dL_law_1541 (by decide) ?_
    exact hv.elim
set_option maxRecDepth 100000 in
set_option maxHeartbeats 4000000 in
theorem tL_law_1427 (X : Cx) (b L : Nat) (xs : Nat → Int32) (rc rs : Nat) (l1 l2 : Nat) (l3 : Int32) (w : Wd)
    (hv : vp_in (l3 + 1) L ∧ vp_in (l3 + 2) L ∧ vp_in (l3 + 3) L ∧ wK w l1 = 11 ∧ Ct X bX10_tell mX10_tell [vR l1, vI (xs (l3 + 1).toNatClampNeg), vJ ((((xs (l3 + 2).toNatClampNeg).toInt64) <<< ((32 : Int32).toInt64 &&& 63)) ||| (((xs (l3 + 3).toNatClampNeg).toInt64) &&& 4294967295))] w (qI fun x5 w4 => vp_in (l3 + 1) L ∧ vp_in (l3 + 2) L ∧ vp_in (l3 + 3) L ∧ wK w4 l2 = 12 ∧ Ct X bX11_tell mX11_tell [vR l2, vI (xs (l3 + 1).toNatClampNeg), vJ ((((xs (l3 + 2).toNatClampNeg).toInt64) <<< ((32 : Int32).toInt64 &&& 63)) ||| (((xs (l3 + 3).toNatClampNeg).toInt64) &&& 4294967295))] w4 (qI fun x11 w10 => ((x5 = x11) → jL_law_1707 X b L xs rc rs l1 l2 l3 w10) ∧ ((¬ x5 = x11) → False)))) :
    jL_law_1427 X b L xs rc rs l1 l2 l3 w := by
  refine e_aload_n (pc := 1427) (i := 1) dL_law_1427 rfl rfl ?_
  refine e_aload_n (pc := 1428) (i := 0) dL_law_1428 rfl rfl ?_
  refine e_iload_n (pc := 1429) (i := 3) dL_law_1429 rfl rfl ?_
  refine e_iconst (pc := 1430) (v := 1) dL_law_1430 (by decide) ?_
  refine e_iadd (pc := 1431) dL_law_1431 ?_
  have hi1 := hv.1
  replace hv := hv.2
  refine l_sld (pc := 1432) dL_law_1432 hi1 ?_
  refine e_aload_n (pc := 1433) (i := 0) dL_law_1433 rfl rfl ?_
  refine e_iload_n (pc := 1434) (i := 3) dL_law_1434 rfl rfl ?_
  refine e_iconst (pc := 1435) (v := 2) dL_law_1435 (by decide) ?_
  refine e_iadd (pc := 1436) dL_law_1436 ?_
  have hi2 := hv.1
  replace hv := hv.2
  refine l_sld (pc := 1437) dL_law_1437 hi2 ?_
  refine e_i2l (pc := 1438) dL_law_1438 ?_
  refine e_bipush (pc := 1439) (v := 32) dL_law_1439 (by decide) ?_
  refine e_lshl (pc := 1441) dL_law_1441 ?_
  refine e_aload_n (pc := 1442) (i := 0) dL_law_1442 rfl rfl ?_
  refine e_iload_n (pc := 1443) (i := 3) dL_law_1443 rfl rfl ?_
  refine e_iconst (pc := 1444) (v := 3) dL_law_1444 (by decide) ?_
  refine e_iadd (pc := 1445) dL_law_1445 ?_
  have hi3 := hv.1
  replace hv := hv.2
  refine l_sld (pc := 1446) dL_law_1446 hi3 ?_
  refine e_i2l (pc := 1447) dL_law_1447 ?_
  refine e_ldc2 (pc := 1448) (v := 4294967295) dL_law_1448 (tb_a6 178 (by decide +kernel) rfl) ?_
  refine e_land (pc := 1451) dL_law_1451 ?_
  refine e_lor (pc := 1452) dL_law_1452 ?_
  have k6 := hv.1
  replace hv := hv.2
  refine e_callVi (pc := 1453) (ci := 10) (st := []) (rc' := rc) (rs' := rs) (B' := bX10_tell) [vI (xs (l3 + 1).toNatClampNeg), vJ ((((xs (l3 + 2).toNatClampNeg).toInt64) <<< ((32 : Int32).toInt64 &&& 63)) ||| (((xs (l3 + 3).toNatClampNeg).toInt64) &&& 4294967295))] dL_law_1453 vRL_131 kX10_tell (by decide) rfl k6 rfl rfl (Nat.le_of_ble_eq_true rfl) ⟨Nat.le_of_ble_eq_true rfl, Nat.le_of_ble_eq_true rfl⟩ rfl rfl hv (fun x5 w4 hv => ?_)
  refine e_aload_n (pc := 1456) (i := 2) dL_law_1456 rfl rfl ?_
  refine e_aload_n (pc := 1457) (i := 0) dL_law_1457 rfl rfl ?_
  refine e_iload_n (pc := 1458) (i := 3) dL_law_1458 rfl rfl ?_
  refine e_iconst (pc := 1459) (v := 1) dL_law_1459 (by decide) ?_
  refine e_iadd (pc := 1460) dL_law_1460 ?_
  have hi7 := hv.1
  replace hv := hv.2
  refine l_sld (pc := 1461) dL_law_1461 hi7 ?_
  refine e_aload_n (pc := 1462) (i := 0) dL_law_1462 rfl rfl ?_
  refine e_iload_n (pc := 1463) (i := 3) dL_law_1463 rfl rfl ?_
  refine e_iconst (pc := 1464) (v := 2) dL_law_1464 (by decide) ?_
  refine e_iadd (pc := 1465) dL_law_1465 ?_
  have hi8 := hv.1
  replace hv := hv.2
  refine l_sld (pc := 1466) dL_law_1466 hi8 ?_
  refine e_i2l (pc := 1467) dL_law_1467 ?_
  refine e_bipush (pc := 1468) (v := 32) dL_law_1468 (by decide) ?_
  refine e_lshl (pc := 1470) dL_law_1470 ?_
  refine e_aload_n (pc := 1471) (i := 0) dL_law_1471 rfl rfl ?_
  refine e_iload_n (pc := 1472) (i := 3) dL_law_1472 rfl rfl ?_
  refine e_iconst (pc := 1473) (v := 3) dL_law_1473 (by decide) ?_
  refine e_iadd (pc := 1474) dL_law_1474 ?_
  have hi9 := hv.1
  replace hv := hv.2
  refine l_sld (pc := 1475) dL_law_1475 hi9 ?_
  refine e_i2l (pc := 1476) dL_law_1476 ?_
  refine e_ldc2 (pc := 1477) (v := 4294967295) dL_law_1477 (tb_a6 178 (by decide +kernel) rfl) ?_
  refine e_land (pc := 1480) dL_law_1480 ?_
  refine e_lor (pc := 1481) dL_law_1481 ?_
  have k12 := hv.1
  replace hv := hv.2
  refine e_callVi (pc := 1482) (ci := 11) (st := [vI x5]) (rc' := rc) (rs' := rs) (B' := bX11_tell) [vI (xs (l3 + 1).toNatClampNeg), vJ ((((xs (l3 + 2).toNatClampNeg).toInt64) <<< ((32 : Int32).toInt64 &&& 63)) ||| (((xs (l3 + 3).toNatClampNeg).toInt64) &&& 4294967295))] dL_law_1482 vRL_134 kX11_tell (by decide) rfl k12 rfl rfl (Nat.le_of_ble_eq_true rfl) ⟨Nat.le_of_ble_eq_true rfl, Nat.le_of_ble_eq_true rfl⟩ rfl rfl hv (fun x11 w10 hv => ?_)
  refine e_icmp_eq (pc := 1485) (tgt := 1707) dL_law_1485 (by decide) (fun h13 => ?_) (fun h13 => ?_)
  · replace hv := hv.1 h13
    exact hv
  · replace hv := hv.2 h13
    refine e_iconst (pc := 1488) (v := 0) dL_law_1488 (by decide) ?_
    exact hv.elim
set_option maxRecDepth 100000 in
set_option maxHeartbeats 4000000 in
theorem tL_law_1403 (X : Cx) (b L : Nat) (xs : Nat → Int32) (rc rs : Nat) (l1 l2 : Nat) (l3 : Int32) (w : Wd)
    (hv : vp_in (l3 + 1) L ∧ wK w l1 = 11 ∧ Ct X bX10_share mX10_share [vR l1, vI (xs (l3 + 1).toNatClampNeg)] w (qJ fun x3 w2 => vp_in (l3 + 1) L ∧ wK w2 l2 = 12 ∧ Ct X bX11_share mX11_share [vR l2, vI (xs (l3 + 1).toNatClampNeg)] w2 (qJ fun x7 w6 => (((lg_cmp x3 x7) = 0) → jL_law_1707 X b L xs rc rs l1 l2 l3 w6) ∧ ((¬ (lg_cmp x3 x7) = 0) → False)))) :
    jL_law_1403 X b L xs rc rs l1 l2 l3 w := by
  refine e_aload_n (pc := 1403) (i := 1) dL_law_1403 rfl rfl ?_
  refine e_aload_n (pc := 1404) (i := 0) dL_law_1404 rfl rfl ?_
  refine e_iload_n (pc := 1405) (i := 3) dL_law_1405 rfl rfl ?_
  refine e_iconst (pc := 1406) (v := 1) dL_law_1406 (by decide) ?_
  refine e_iadd (pc := 1407) dL_law_1407 ?_
  have hi1 := hv.1
  replace hv := hv.2
  refine l_sld (pc := 1408) dL_law_1408 hi1 ?_
  have k4 := hv.1
  replace hv := hv.2
  refine e_callVj (pc := 1409) (ci := 10) (st := []) (rc' := rc) (rs' := rs) (B' := bX10_share) [vI (xs (l3 + 1).toNatClampNeg)] dL_law_1409 vRL_126 kX10_share (by decide) rfl k4 rfl rfl (Nat.le_of_ble_eq_true rfl) ⟨Nat.le_of_ble_eq_true rfl, Nat.le_of_ble_eq_true rfl⟩ rfl rfl hv (fun x3 w2 hv => ?_)
  refine e_aload_n (pc := 1412) (i := 2) dL_law_1412 rfl rfl ?_
  refine e_aload_n (pc := 1413) (i := 0) dL_law_1413 rfl rfl ?_
  refine e_iload_n (pc := 1414) (i := 3) dL_law_1414 rfl rfl ?_
  refine e_iconst (pc := 1415) (v := 1) dL_law_1415 (by decide) ?_
  refine e_iadd (pc := 1416) dL_law_1416 ?_
  have hi5 := hv.1
  replace hv := hv.2
  refine l_sld (pc := 1417) dL_law_1417 hi5 ?_
  have k8 := hv.1
  replace hv := hv.2
  refine e_callVj (pc := 1418) (ci := 11) (st := [vJ x3]) (rc' := rc) (rs' := rs) (B' := bX11_share) [vI (xs (l3 + 1).toNatClampNeg)] dL_law_1418 vRL_130 kX11_share (by decide) rfl k8 rfl rfl (Nat.le_of_ble_eq_true rfl) ⟨Nat.le_of_ble_eq_true rfl, Nat.le_of_ble_eq_true rfl⟩ rfl rfl hv (fun x7 w6 hv => ?_)
  refine e_lcmp (pc := 1421) dL_law_1421 ?_
  refine e_if_eq (pc := 1422) (tgt := 1707) dL_law_1422 (by decide) (fun h9 => ?_) (fun h9 => ?_)
  · replace hv := hv.1 h9
    exact hv
  · replace hv := hv.2 h9
    refine e_iconst (pc := 1425) (v := 0) dL_law_1425 (by decide) ?_
    exact hv.elim
set_option maxRecDepth 100000 in
set_option maxHeartbeats 4000000 in
theorem tL_law_1287 (X : Cx) (b L : Nat) (xs : Nat → Int32) (rc rs : Nat) (l1 l2 : Nat) (l3 : Int32) (w : Wd)
    (hv : vp_in (l3 + 1) L ∧ vp_in (l3 + 2) L ∧ vp_in (l3 + 3) L ∧ vp_in (l3 + 4) L ∧ vp_in (l3 + 5) L ∧ vp_in (l3 + 6) L ∧ ∃ mc10 ms11 rc7 rs8 : Nat, (rc = rc7 + mc10 ∧ rs = rs8 + ms11) ∧ wK w l1 = 11 ∧ Ct X (7, mc10, ms11) mX10_sell [vR l1, vI (xs (l3 + 1).toNatClampNeg), vI (xs (l3 + 2).toNatClampNeg), vJ ((((xs (l3 + 3).toNatClampNeg).toInt64) <<< ((32 : Int32).toInt64 &&& 63)) ||| (((xs (l3 + 4).toNatClampNeg).toInt64) &&& 4294967295)), vJ ((((xs (l3 + 5).toNatClampNeg).toInt64) <<< ((32 : Int32).toInt64 &&& 63)) ||| (((xs (l3 + 6).toNatClampNeg).toInt64) &&& 4294967295))] w (qJ fun x13 w12 => vp_in (l3 + 1) L ∧ vp_in (l3 + 2) L ∧ vp_in (l3 + 3) L ∧ vp_in (l3 + 4) L ∧ vp_in (l3 + 5) L ∧ vp_in (l3 + 6) L ∧ wK w12 l2 = 12 ∧ Ct X bX11_sell mX11_sell [vR l2, vI (xs (l3 + 1).toNatClampNeg), vI (xs (l3 + 2).toNatClampNeg), vJ ((((xs (l3 + 3).toNatClampNeg).toInt64) <<< ((32 : Int32).toInt64 &&& 63)) ||| (((xs (l3 + 4).toNatClampNeg).toInt64) &&& 4294967295)), vJ ((((xs (l3 + 5).toNatClampNeg).toInt64) <<< ((32 : Int32).toInt64 &&& 63)) ||| (((xs (l3 + 6).toNatClampNeg).toInt64) &&& 4294967295))] w12 (qJ fun x22 w21 => (((lg_cmp x13 x22) = 0) → jL_law_1707 X b L xs rc7 rs8 l1 l2 l3 w21) ∧ ((¬ (lg_cmp x13 x22) = 0) → False)))) :
    jL_law_1287 X b L xs rc rs l1 l2 l3 w := by
  refine e_aload_n (pc := 1287) (i := 1) dL_law_1287 rfl rfl ?_
  refine e_aload_n (pc := 1288) (i := 0) dL_law_1288 rfl rfl ?_
  refine e_iload_n (pc := 1289) (i := 3) dL_law_1289 rfl rfl ?_
  refine e_iconst (pc := 1290) (v := 1) dL_law_1290 (by decide) ?_
  refine e_iadd (pc := 1291) dL_law_1291 ?_
  have hi1 := hv.1
  replace hv := hv.2
  refine l_sld (pc := 1292) dL_law_1292 hi1 ?_
  refine e_aload_n (pc := 1293) (i := 0) dL_law_1293 rfl rfl ?_
  refine e_iload_n (pc := 1294) (i := 3) dL_law_1294 rfl rfl ?_
  refine e_iconst (pc := 1295) (v := 2) dL_law_1295 (by decide) ?_
  refine e_iadd (pc := 1296) dL_law_1296 ?_
  have hi2 := hv.1
  replace hv := hv.2
  refine l_sld (pc := 1297) dL_law_1297 hi2 ?_
  refine e_aload_n (pc := 1298) (i := 0) dL_law_1298 rfl rfl ?_
  refine e_iload_n (pc := 1299) (i := 3) dL_law_1299 rfl rfl ?_
  refine e_iconst (pc := 1300) (v := 3) dL_law_1300 (by decide) ?_
  refine e_iadd (pc := 1301) dL_law_1301 ?_
  have hi3 := hv.1
  replace hv := hv.2
  refine l_sld (pc := 1302) dL_law_1302 hi3 ?_
  refine e_i2l (pc := 1303) dL_law_1303 ?_
  refine e_bipush (pc := 1304) (v := 32) dL_law_1304 (by decide) ?_
  refine e_lshl (pc := 1306) dL_law_1306 ?_
  refine e_aload_n (pc := 1307) (i := 0) dL_law_1307 rfl rfl ?_
  refine e_iload_n (pc := 1308) (i := 3) dL_law_1308 rfl rfl ?_
  refine e_iconst (pc := 1309) (v := 4) dL_law_1309 (by decide) ?_
  refine e_iadd (pc := 1310) dL_law_1310 ?_
  have hi4 := hv.1
  replace hv := hv.2
  refine l_sld (pc := 1311) dL_law_1311 hi4 ?_
  refine e_i2l (pc := 1312) dL_law_1312 ?_
  refine e_ldc2 (pc := 1313) (v := 4294967295) dL_law_1313 (tb_a6 178 (by decide +kernel) rfl) ?_
  refine e_land (pc := 1316) dL_law_1316 ?_
  refine e_lor (pc := 1317) dL_law_1317 ?_
  refine e_aload_n (pc := 1318) (i := 0) dL_law_1318 rfl rfl ?_
  refine e_iload_n (pc := 1319) (i := 3) dL_law_1319 rfl rfl ?_
  refine e_iconst (pc := 1320) (v := 5) dL_law_1320 (by decide) ?_
  refine e_iadd (pc := 1321) dL_law_1321 ?_
  have hi5 := hv.1
  replace hv := hv.2
  refine l_sld (pc := 1322) dL_law_1322 hi5 ?_
  refine e_i2l (pc := 1323) dL_law_1323 ?_
  refine e_bipush (pc := 1324) (v := 32) dL_law_1324 (by decide) ?_
  refine e_lshl (pc := 1326) dL_law_1326 ?_
  refine e_aload_n (pc := 1327) (i := 0) dL_law_1327 rfl rfl ?_
  refine e_iload_n (pc := 1328) (i := 3) dL_law_1328 rfl rfl ?_
  refine e_bipush (pc := 1329) (v := 6) dL_law_1329 (by decide) ?_
  refine e_iadd (pc := 1331) dL_law_1331 ?_
  have hi6 := hv.1
  replace hv := hv.2
  refine l_sld (pc := 1332) dL_law_1332 hi6 ?_
  refine e_i2l (pc := 1333) dL_law_1333 ?_
  refine e_ldc2 (pc := 1334) (v := 4294967295) dL_law_1334 (tb_a6 178 (by decide +kernel) rfl) ?_
  refine e_land (pc := 1337) dL_law_1337 ?_
  refine e_lor (pc := 1338) dL_law_1338 ?_
  obtain ⟨mc10, ms11, rc7, rs8, hr9, hv⟩ := hv
  have k14 := hv.1
  replace hv := hv.2
  refine e_callVj (pc := 1339) (ci := 10) (st := []) (rc' := rc7) (rs' := rs8) (B' := (7, mc10, ms11)) [vI (xs (l3 + 1).toNatClampNeg), vI (xs (l3 + 2).toNatClampNeg), vJ ((((xs (l3 + 3).toNatClampNeg).toInt64) <<< ((32 : Int32).toInt64 &&& 63)) ||| (((xs (l3 + 4).toNatClampNeg).toInt64) &&& 4294967295)), vJ ((((xs (l3 + 5).toNatClampNeg).toInt64) <<< ((32 : Int32).toInt64 &&& 63)) ||| (((xs (l3 + 6).toNatClampNeg).toInt64) &&& 4294967295))] dL_law_1339 vRL_122 kX10_sell (by decide) rfl k14 rfl rfl (Nat.le_of_ble_eq_true rfl) ⟨Nat.le_of_ble_eq_true rfl, Nat.le_of_ble_eq_true rfl⟩ hr9.1 hr9.2 hv (fun x13 w12 hv => ?_)
  refine e_aload_n (pc := 1342) (i := 2) dL_law_1342 rfl rfl ?_
  refine e_aload_n (pc := 1343) (i := 0) dL_law_1343 rfl rfl ?_
  refine e_iload_n (pc := 1344) (i := 3) dL_law_1344 rfl rfl ?_
  refine e_iconst (pc := 1345) (v := 1) dL_law_1345 (by decide) ?_
  refine e_iadd (pc := 1346) dL_law_1346 ?_
  have hi15 := hv.1
  replace hv := hv.2
  refine l_sld (pc := 1347) dL_law_1347 hi15 ?_
  refine e_aload_n (pc := 1348) (i := 0) dL_law_1348 rfl rfl ?_
  refine e_iload_n (pc := 1349) (i := 3) dL_law_1349 rfl rfl ?_
  refine e_iconst (pc := 1350) (v := 2) dL_law_1350 (by decide) ?_
  refine e_iadd (pc := 1351) dL_law_1351 ?_
  have hi16 := hv.1
  replace hv := hv.2
  refine l_sld (pc := 1352) dL_law_1352 hi16 ?_
  refine e_aload_n (pc := 1353) (i := 0) dL_law_1353 rfl rfl ?_
  refine e_iload_n (pc := 1354) (i := 3) dL_law_1354 rfl rfl ?_
  refine e_iconst (pc := 1355) (v := 3) dL_law_1355 (by decide) ?_
  refine e_iadd (pc := 1356) dL_law_1356 ?_
  have hi17 := hv.1
  replace hv := hv.2
  refine l_sld (pc := 1357) dL_law_1357 hi17 ?_
  refine e_i2l (pc := 1358) dL_law_1358 ?_
  refine e_bipush (pc := 1359) (v := 32) dL_law_1359 (by decide) ?_
  refine e_lshl (pc := 1361) dL_law_1361 ?_
  refine e_aload_n (pc := 1362) (i := 0) dL_law_1362 rfl rfl ?_
  refine e_iload_n (pc := 1363) (i := 3) dL_law_1363 rfl rfl ?_
  refine e_iconst (pc := 1364) (v := 4) dL_law_1364 (by decide) ?_
  refine e_iadd (pc := 1365) dL_law_1365 ?_
  have hi18 := hv.1
  replace hv := hv.2
  refine l_sld (pc := 1366) dL_law_1366 hi18 ?_
  refine e_i2l (pc := 1367) dL_law_1367 ?_
  refine e_ldc2 (pc := 1368) (v := 4294967295) dL_law_1368 (tb_a6 178 (by decide +kernel) rfl) ?_
  refine e_land (pc := 1371) dL_law_1371 ?_
  refine e_lor (pc := 1372) dL_law_1372 ?_
  refine e_aload_n (pc := 1373) (i := 0) dL_law_1373 rfl rfl ?_
  refine e_iload_n (pc := 1374) (i := 3) dL_law_1374 rfl rfl ?_
  refine e_iconst (pc := 1375) (v := 5) dL_law_1375 (by decide) ?_
  refine e_iadd (pc := 1376) dL_law_1376 ?_
  have hi19 := hv.1
  replace hv := hv.2
  refine l_sld (pc := 1377) dL_law_1377 hi19 ?_
  refine e_i2l (pc := 1378) dL_law_1378 ?_
  refine e_bipush (pc := 1379) (v := 32) dL_law_1379 (by decide) ?_
  refine e_lshl (pc := 1381) dL_law_1381 ?_
  refine e_aload_n (pc := 1382) (i := 0) dL_law_1382 rfl rfl ?_
  refine e_iload_n (pc := 1383) (i := 3) dL_law_1383 rfl rfl ?_
  refine e_bipush (pc := 1384) (v := 6) dL_law_1384 (by decide) ?_
  refine e_iadd (pc := 1386) dL_law_1386 ?_
  have hi20 := hv.1
  replace hv := hv.2
  refine l_sld (pc := 1387) dL_law_1387 hi20 ?_
  refine e_i2l (pc := 1388) dL_law_1388 ?_
  refine e_ldc2 (pc := 1389) (v := 4294967295) dL_law_1389 (tb_a6 178 (by decide +kernel) rfl) ?_
  refine e_land (pc := 1392) dL_law_1392 ?_
  refine e_lor (pc := 1393) dL_law_1393 ?_
  have k23 := hv.1
  replace hv := hv.2
  refine e_callVj (pc := 1394) (ci := 11) (st := [vJ x13]) (rc' := rc7) (rs' := rs8) (B' := bX11_sell) [vI (xs (l3 + 1).toNatClampNeg), vI (xs (l3 + 2).toNatClampNeg), vJ ((((xs (l3 + 3).toNatClampNeg).toInt64) <<< ((32 : Int32).toInt64 &&& 63)) ||| (((xs (l3 + 4).toNatClampNeg).toInt64) &&& 4294967295)), vJ ((((xs (l3 + 5).toNatClampNeg).toInt64) <<< ((32 : Int32).toInt64 &&& 63)) ||| (((xs (l3 + 6).toNatClampNeg).toInt64) &&& 4294967295))] dL_law_1394 vRL_125 kX11_sell (by decide) rfl k23 rfl rfl (Nat.le_of_ble_eq_true rfl) ⟨Nat.le_of_ble_eq_true rfl, Nat.le_of_ble_eq_true rfl⟩ rfl rfl hv (fun x22 w21 hv => ?_)
  refine e_lcmp (pc := 1397) dL_law_1397 ?_
  refine e_if_eq (pc := 1398) (tgt := 1707) dL_law_1398 (by decide) (fun h24 => ?_) (fun h24 => ?_)
  · replace hv := hv.1 h24
    exact hv
  · replace hv := hv.2 h24
    refine e_iconst (pc := 1401) (v := 0) dL_law_1401 (by decide) ?_
    exact hv.elim
set_option maxRecDepth 100000 in
set_option maxHeartbeats 4000000 in
theorem tL_law_1171 (X : Cx) (b L : Nat) (xs : Nat → Int32) (rc rs : Nat) (l1 l2 : Nat) (l3 : Int32) (w : Wd)
    (hv : vp_in (l3 + 1) L ∧ vp_in (l3 + 2) L ∧ vp_in (l3 + 3) L ∧ vp_in (l3 + 4) L ∧ vp_in (l3 + 5) L ∧ vp_in (l3 + 6) L ∧ ∃ rc7 rs8 : Nat, (rc = rc7 + 2 ∧ rs = rs8 + 7) ∧ wK w l1 = 11 ∧ Ct X bX10_sale mX10_sale [vR l1, vI (xs (l3 + 1).toNatClampNeg), vI (xs (l3 + 2).toNatClampNeg), vJ ((((xs (l3 + 3).toNatClampNeg).toInt64) <<< ((32 : Int32).toInt64 &&& 63)) ||| (((xs (l3 + 4).toNatClampNeg).toInt64) &&& 4294967295)), vJ ((((xs (l3 + 5).toNatClampNeg).toInt64) <<< ((32 : Int32).toInt64 &&& 63)) ||| (((xs (l3 + 6).toNatClampNeg).toInt64) &&& 4294967295))] w (qJ fun x11 w10 => vp_in (l3 + 1) L ∧ vp_in (l3 + 2) L ∧ vp_in (l3 + 3) L ∧ vp_in (l3 + 4) L ∧ vp_in (l3 + 5) L ∧ vp_in (l3 + 6) L ∧ wK w10 l2 = 12 ∧ Ct X bX11_sale mX11_sale [vR l2, vI (xs (l3 + 1).toNatClampNeg), vI (xs (l3 + 2).toNatClampNeg), vJ ((((xs (l3 + 3).toNatClampNeg).toInt64) <<< ((32 : Int32).toInt64 &&& 63)) ||| (((xs (l3 + 4).toNatClampNeg).toInt64) &&& 4294967295)), vJ ((((xs (l3 + 5).toNatClampNeg).toInt64) <<< ((32 : Int32).toInt64 &&& 63)) ||| (((xs (l3 + 6).toNatClampNeg).toInt64) &&& 4294967295))] w10 (qJ fun x20 w19 => (((lg_cmp x11 x20) = 0) → jL_law_1707 X b L xs rc7 rs8 l1 l2 l3 w19) ∧ ((¬ (lg_cmp x11 x20) = 0) → False)))) :
    jL_law_1171 X b L xs rc rs l1 l2 l3 w := by
  refine e_aload_n (pc := 1171) (i := 1) dL_law_1171 rfl rfl ?_
  refine e_aload_n (pc := 1172) (i := 0) dL_law_1172 rfl rfl ?_
  refine e_iload_n (pc := 1173) (i := 3) dL_law_1173 rfl rfl ?_
  refine e_iconst (pc := 1174) (v := 1) dL_law_1174 (by decide) ?_
  refine e_iadd (pc := 1175) dL_law_1175 ?_
  have hi1 := hv.1
  replace hv := hv.2
  refine l_sld (pc := 1176) dL_law_1176 hi1 ?_
  refine e_aload_n (pc := 1177) (i := 0) dL_law_1177 rfl rfl ?_
  refine e_iload_n (pc := 1178) (i := 3) dL_law_1178 rfl rfl ?_
  refine e_iconst (pc := 1179) (v := 2) dL_law_1179 (by decide) ?_
  refine e_iadd (pc := 1180) dL_law_1180 ?_
  have hi2 := hv.1
  replace hv := hv.2
  refine l_sld (pc := 1181) dL_law_1181 hi2 ?_
  refine e_aload_n (pc := 1182) (i := 0) dL_law_1182 rfl rfl ?_
  refine e_iload_n (pc := 1183) (i := 3) dL_law_1183 rfl rfl ?_
  refine e_iconst (pc := 1184) (v := 3) dL_law_1184 (by decide) ?_
  refine e_iadd (pc := 1185) dL_law_1185 ?_
  have hi3 := hv.1
  replace hv := hv.2
  refine l_sld (pc := 1186) dL_law_1186 hi3 ?_
  refine e_i2l (pc := 1187) dL_law_1187 ?_
  refine e_bipush (pc := 1188) (v := 32) dL_law_1188 (by decide) ?_
  refine e_lshl (pc := 1190) dL_law_1190 ?_
  refine e_aload_n (pc := 1191) (i := 0) dL_law_1191 rfl rfl ?_
  refine e_iload_n (pc := 1192) (i := 3) dL_law_1192 rfl rfl ?_
  refine e_iconst (pc := 1193) (v := 4) dL_law_1193 (by decide) ?_
  refine e_iadd (pc := 1194) dL_law_1194 ?_
  have hi4 := hv.1
  replace hv := hv.2
  refine l_sld (pc := 1195) dL_law_1195 hi4 ?_
  refine e_i2l (pc := 1196) dL_law_1196 ?_
  refine e_ldc2 (pc := 1197) (v := 4294967295) dL_law_1197 (tb_a6 178 (by decide +kernel) rfl) ?_
  refine e_land (pc := 1200) dL_law_1200 ?_
  refine e_lor (pc := 1201) dL_law_1201 ?_
  refine e_aload_n (pc := 1202) (i := 0) dL_law_1202 rfl rfl ?_
  refine e_iload_n (pc := 1203) (i := 3) dL_law_1203 rfl rfl ?_
  refine e_iconst (pc := 1204) (v := 5) dL_law_1204 (by decide) ?_
  refine e_iadd (pc := 1205) dL_law_1205 ?_
  have hi5 := hv.1
  replace hv := hv.2
  refine l_sld (pc := 1206) dL_law_1206 hi5 ?_
  refine e_i2l (pc := 1207) dL_law_1207 ?_
  refine e_bipush (pc := 1208) (v := 32) dL_law_1208 (by decide) ?_
  refine e_lshl (pc := 1210) dL_law_1210 ?_
  refine e_aload_n (pc := 1211) (i := 0) dL_law_1211 rfl rfl ?_
  refine e_iload_n (pc := 1212) (i := 3) dL_law_1212 rfl rfl ?_
  refine e_bipush (pc := 1213) (v := 6) dL_law_1213 (by decide) ?_
  refine e_iadd (pc := 1215) dL_law_1215 ?_
  have hi6 := hv.1
  replace hv := hv.2
  refine l_sld (pc := 1216) dL_law_1216 hi6 ?_
  refine e_i2l (pc := 1217) dL_law_1217 ?_
  refine e_ldc2 (pc := 1218) (v := 4294967295) dL_law_1218 (tb_a6 178 (by decide +kernel) rfl) ?_
  refine e_land (pc := 1221) dL_law_1221 ?_
  refine e_lor (pc := 1222) dL_law_1222 ?_
  obtain ⟨rc7, rs8, hr9, hv⟩ := hv
  have k12 := hv.1
  replace hv := hv.2
  refine e_callVj (pc := 1223) (ci := 10) (st := []) (rc' := rc7) (rs' := rs8) (B' := bX10_sale) [vI (xs (l3 + 1).toNatClampNeg), vI (xs (l3 + 2).toNatClampNeg), vJ ((((xs (l3 + 3).toNatClampNeg).toInt64) <<< ((32 : Int32).toInt64 &&& 63)) ||| (((xs (l3 + 4).toNatClampNeg).toInt64) &&& 4294967295)), vJ ((((xs (l3 + 5).toNatClampNeg).toInt64) <<< ((32 : Int32).toInt64 &&& 63)) ||| (((xs (l3 + 6).toNatClampNeg).toInt64) &&& 4294967295))] dL_law_1223 vRL_117 kX10_sale (by decide) rfl k12 rfl rfl (Nat.le_of_ble_eq_true rfl) ⟨Nat.le_of_ble_eq_true rfl, Nat.le_of_ble_eq_true rfl⟩ hr9.1 hr9.2 hv (fun x11 w10 hv => ?_)
  refine e_aload_n (pc := 1226) (i := 2) dL_law_1226 rfl rfl ?_
  refine e_aload_n (pc := 1227) (i := 0) dL_law_1227 rfl rfl ?_
  refine e_iload_n (pc := 1228) (i := 3) dL_law_1228 rfl rfl ?_
  refine e_iconst (pc := 1229) (v := 1) dL_law_1229 (by decide) ?_
  refine e_iadd (pc := 1230) dL_law_1230 ?_
  have hi13 := hv.1
  replace hv := hv.2
  refine l_sld (pc := 1231) dL_law_1231 hi13 ?_
  refine e_aload_n (pc := 1232) (i := 0) dL_law_1232 rfl rfl ?_
  refine e_iload_n (pc := 1233) (i := 3) dL_law_1233 rfl rfl ?_
  refine e_iconst (pc := 1234) (v := 2) dL_law_1234 (by decide) ?_
  refine e_iadd (pc := 1235) dL_law_1235 ?_
  have hi14 := hv.1
  replace hv := hv.2
  refine l_sld (pc := 1236) dL_law_1236 hi14 ?_
  refine e_aload_n (pc := 1237) (i := 0) dL_law_1237 rfl rfl ?_
  refine e_iload_n (pc := 1238) (i := 3) dL_law_1238 rfl rfl ?_
  refine e_iconst (pc := 1239) (v := 3) dL_law_1239 (by decide) ?_
  refine e_iadd (pc := 1240) dL_law_1240 ?_
  have hi15 := hv.1
  replace hv := hv.2
  refine l_sld (pc := 1241) dL_law_1241 hi15 ?_
  refine e_i2l (pc := 1242) dL_law_1242 ?_
  refine e_bipush (pc := 1243) (v := 32) dL_law_1243 (by decide) ?_
  refine e_lshl (pc := 1245) dL_law_1245 ?_
  refine e_aload_n (pc := 1246) (i := 0) dL_law_1246 rfl rfl ?_
  refine e_iload_n (pc := 1247) (i := 3) dL_law_1247 rfl rfl ?_
  refine e_iconst (pc := 1248) (v := 4) dL_law_1248 (by decide) ?_
  refine e_iadd (pc := 1249) dL_law_1249 ?_
  have hi16 := hv.1
  replace hv := hv.2
  refine l_sld (pc := 1250) dL_law_1250 hi16 ?_
  refine e_i2l (pc := 1251) dL_law_1251 ?_
  refine e_ldc2 (pc := 1252) (v := 4294967295) dL_law_1252 (tb_a6 178 (by decide +kernel) rfl) ?_
  refine e_land (pc := 1255) dL_law_1255 ?_
  refine e_lor (pc := 1256) dL_law_1256 ?_
  refine e_aload_n (pc := 1257) (i := 0) dL_law_1257 rfl rfl ?_
  refine e_iload_n (pc := 1258) (i := 3) dL_law_1258 rfl rfl ?_
  refine e_iconst (pc := 1259) (v := 5) dL_law_1259 (by decide) ?_
  refine e_iadd (pc := 1260) dL_law_1260 ?_
  have hi17 := hv.1
  replace hv := hv.2
  refine l_sld (pc := 1261) dL_law_1261 hi17 ?_
  refine e_i2l (pc := 1262) dL_law_1262 ?_
  refine e_bipush (pc := 1263) (v := 32) dL_law_1263 (by decide) ?_
  refine e_lshl (pc := 1265) dL_law_1265 ?_
  refine e_aload_n (pc := 1266) (i := 0) dL_law_1266 rfl rfl ?_
  refine e_iload_n (pc := 1267) (i := 3) dL_law_1267 rfl rfl ?_
  refine e_bipush (pc := 1268) (v := 6) dL_law_1268 (by decide) ?_
  refine e_iadd (pc := 1270) dL_law_1270 ?_
  have hi18 := hv.1
  replace hv := hv.2
  refine l_sld (pc := 1271) dL_law_1271 hi18 ?_
  refine e_i2l (pc := 1272) dL_law_1272 ?_
  refine e_ldc2 (pc := 1273) (v := 4294967295) dL_law_1273 (tb_a6 178 (by decide +kernel) rfl) ?_
  refine e_land (pc := 1276) dL_law_1276 ?_
  refine e_lor (pc := 1277) dL_law_1277 ?_
  have k21 := hv.1
  replace hv := hv.2
  refine e_callVj (pc := 1278) (ci := 11) (st := [vJ x11]) (rc' := rc7) (rs' := rs8) (B' := bX11_sale) [vI (xs (l3 + 1).toNatClampNeg), vI (xs (l3 + 2).toNatClampNeg), vJ ((((xs (l3 + 3).toNatClampNeg).toInt64) <<< ((32 : Int32).toInt64 &&& 63)) ||| (((xs (l3 + 4).toNatClampNeg).toInt64) &&& 4294967295)), vJ ((((xs (l3 + 5).toNatClampNeg).toInt64) <<< ((32 : Int32).toInt64 &&& 63)) ||| (((xs (l3 + 6).toNatClampNeg).toInt64) &&& 4294967295))] dL_law_1278 vRL_121 kX11_sale (by decide) rfl k21 rfl rfl (Nat.le_of_ble_eq_true rfl) ⟨Nat.le_of_ble_eq_true rfl, Nat.le_of_ble_eq_true rfl⟩ rfl rfl hv (fun x20 w19 hv => ?_)
  refine e_lcmp (pc := 1281) dL_law_1281 ?_
  refine e_if_eq (pc := 1282) (tgt := 1707) dL_law_1282 (by decide) (fun h22 => ?_) (fun h22 => ?_)
  · replace hv := hv.1 h22
    exact hv
  · replace hv := hv.2 h22
    refine e_iconst (pc := 1285) (v := 0) dL_law_1285 (by decide) ?_
    exact hv.elim
set_option maxRecDepth 100000 in
set_option maxHeartbeats 4000000 in
theorem tL_law_1148 (X : Cx) (b L : Nat) (xs : Nat → Int32) (rc rs : Nat) (l1 l2 : Nat) (l3 : Int32) (w : Wd)
    (hv : vp_in (l3 + 1) L ∧ wK w l1 = 11 ∧ Ct X bX10_choose mX10_choose [vR l1, vI (xs (l3 + 1).toNatClampNeg)] w (qI fun x3 w2 => vp_in (l3 + 1) L ∧ wK w2 l2 = 12 ∧ Ct X bX11_choose mX11_choose [vR l2, vI (xs (l3 + 1).toNatClampNeg)] w2 (qI fun x7 w6 => ((x3 = x7) → jL_law_1707 X b L xs rc rs l1 l2 l3 w6) ∧ ((¬ x3 = x7) → False)))) :
    jL_law_1148 X b L xs rc rs l1 l2 l3 w := by
  refine e_aload_n (pc := 1148) (i := 1) dL_law_1148 rfl rfl ?_
  refine e_aload_n (pc := 1149) (i := 0) dL_law_1149 rfl rfl ?_
  refine e_iload_n (pc := 1150) (i := 3) dL_law_1150 rfl rfl ?_
  refine e_iconst (pc := 1151) (v := 1) dL_law_1151 (by decide) ?_
  refine e_iadd (pc := 1152) dL_law_1152 ?_
  have hi1 := hv.1
  replace hv := hv.2
  refine l_sld (pc := 1153) dL_law_1153 hi1 ?_
  have k4 := hv.1
  replace hv := hv.2
  refine e_callVi (pc := 1154) (ci := 10) (st := []) (rc' := rc) (rs' := rs) (B' := bX10_choose) [vI (xs (l3 + 1).toNatClampNeg)] dL_law_1154 vRL_113 kX10_choose (by decide) rfl k4 rfl rfl (Nat.le_of_ble_eq_true rfl) ⟨Nat.le_of_ble_eq_true rfl, Nat.le_of_ble_eq_true rfl⟩ rfl rfl hv (fun x3 w2 hv => ?_)
  refine e_aload_n (pc := 1157) (i := 2) dL_law_1157 rfl rfl ?_
  refine e_aload_n (pc := 1158) (i := 0) dL_law_1158 rfl rfl ?_
  refine e_iload_n (pc := 1159) (i := 3) dL_law_1159 rfl rfl ?_
  refine e_iconst (pc := 1160) (v := 1) dL_law_1160 (by decide) ?_
  refine e_iadd (pc := 1161) dL_law_1161 ?_
  have hi5 := hv.1
  replace hv := hv.2
  refine l_sld (pc := 1162) dL_law_1162 hi5 ?_
  have k8 := hv.1
  replace hv := hv.2
  refine e_callVi (pc := 1163) (ci := 11) (st := [vI x3]) (rc' := rc) (rs' := rs) (B' := bX11_choose) [vI (xs (l3 + 1).toNatClampNeg)] dL_law_1163 vRL_116 kX11_choose (by decide) rfl k8 rfl rfl (Nat.le_of_ble_eq_true rfl) ⟨Nat.le_of_ble_eq_true rfl, Nat.le_of_ble_eq_true rfl⟩ rfl rfl hv (fun x7 w6 hv => ?_)
  refine e_icmp_eq (pc := 1166) (tgt := 1707) dL_law_1166 (by decide) (fun h9 => ?_) (fun h9 => ?_)
  · replace hv := hv.1 h9
    exact hv
  · replace hv := hv.2 h9
    refine e_iconst (pc := 1169) (v := 0) dL_law_1169 (by decide) ?_
    exact hv.elim
set_option maxRecDepth 100000 in
set_option maxHeartbeats 4000000 in
theorem tL_law_1095 (X : Cx) (b L : Nat) (xs : Nat → Int32) (rc rs : Nat) (l1 l2 : Nat) (l3 : Int32) (w : Wd)
    (hv : vp_in (l3 + 1) L ∧ vp_in (l3 + 2) L ∧ vp_in (l3 + 3) L ∧ vp_in (l3 + 4) L ∧ ∃ rc5 rs6 : Nat, (rc = rc5 + 2 ∧ rs = rs6 + 7) ∧ wK w l1 = 11 ∧ Ct X bX10_as mX10_as [vR l1, vI (xs (l3 + 1).toNatClampNeg), vI (xs (l3 + 2).toNatClampNeg), vI (xs (l3 + 3).toNatClampNeg), vI (xs (l3 + 4).toNatClampNeg)] w (qI fun x9 w8 => vp_in (l3 + 1) L ∧ vp_in (l3 + 2) L ∧ vp_in (l3 + 3) L ∧ vp_in (l3 + 4) L ∧ wK w8 l2 = 12 ∧ Ct X bX11_as mX11_as [vR l2, vI (xs (l3 + 1).toNatClampNeg), vI (xs (l3 + 2).toNatClampNeg), vI (xs (l3 + 3).toNatClampNeg), vI (xs (l3 + 4).toNatClampNeg)] w8 (qI fun x16 w15 => ((x9 = x16) → jL_law_1707 X b L xs rc5 rs6 l1 l2 l3 w15) ∧ ((¬ x9 = x16) → False)))) :
    jL_law_1095 X b L xs rc rs l1 l2 l3 w := by
  refine e_aload_n (pc := 1095) (i := 1) dL_law_1095 rfl rfl ?_
  refine e_aload_n (pc := 1096) (i := 0) dL_law_1096 rfl rfl ?_
  refine e_iload_n (pc := 1097) (i := 3) dL_law_1097 rfl rfl ?_
  refine e_iconst (pc := 1098) (v := 1) dL_law_1098 (by decide) ?_
  refine e_iadd (pc := 1099) dL_law_1099 ?_
  have hi1 := hv.1
  replace hv := hv.2
  refine l_sld (pc := 1100) dL_law_1100 hi1 ?_
  refine e_aload_n (pc := 1101) (i := 0) dL_law_1101 rfl rfl ?_
  refine e_iload_n (pc := 1102) (i := 3) dL_law_1102 rfl rfl ?_
  refine e_iconst (pc := 1103) (v := 2) dL_law_1103 (by decide) ?_
  refine e_iadd (pc := 1104) dL_law_1104 ?_
  have hi2 := hv.1
  replace hv := hv.2
  refine l_sld (pc := 1105) dL_law_1105 hi2 ?_
  refine e_aload_n (pc := 1106) (i := 0) dL_law_1106 rfl rfl ?_
  refine e_iload_n (pc := 1107) (i := 3) dL_law_1107 rfl rfl ?_
  refine e_iconst (pc := 1108) (v := 3) dL_law_1108 (by decide) ?_
  refine e_iadd (pc := 1109) dL_law_1109 ?_
  have hi3 := hv.1
  replace hv := hv.2
  refine l_sld (pc := 1110) dL_law_1110 hi3 ?_
  refine e_aload_n (pc := 1111) (i := 0) dL_law_1111 rfl rfl ?_
  refine e_iload_n (pc := 1112) (i := 3) dL_law_1112 rfl rfl ?_
  refine e_iconst (pc := 1113) (v := 4) dL_law_1113 (by decide) ?_
  refine e_iadd (pc := 1114) dL_law_1114 ?_
  have hi4 := hv.1
  replace hv := hv.2
  refine l_sld (pc := 1115) dL_law_1115 hi4 ?_
  obtain ⟨rc5, rs6, hr7, hv⟩ := hv
  have k10 := hv.1
  replace hv := hv.2
  refine e_callVi (pc := 1116) (ci := 10) (st := []) (rc' := rc5) (rs' := rs6) (B' := bX10_as) [vI (xs (l3 + 1).toNatClampNeg), vI (xs (l3 + 2).toNatClampNeg), vI (xs (l3 + 3).toNatClampNeg), vI (xs (l3 + 4).toNatClampNeg)] dL_law_1116 vRL_108 kX10_as (by decide) rfl k10 rfl rfl (Nat.le_of_ble_eq_true rfl) ⟨Nat.le_of_ble_eq_true rfl, Nat.le_of_ble_eq_true rfl⟩ hr7.1 hr7.2 hv (fun x9 w8 hv => ?_)
  refine e_aload_n (pc := 1119) (i := 2) dL_law_1119 rfl rfl ?_
  refine e_aload_n (pc := 1120) (i := 0) dL_law_1120 rfl rfl ?_
  refine e_iload_n (pc := 1121) (i := 3) dL_law_1121 rfl rfl ?_
  refine e_iconst (pc := 1122) (v := 1) dL_law_1122 (by decide) ?_
  refine e_iadd (pc := 1123) dL_law_1123 ?_
  have hi11 := hv.1
  replace hv := hv.2
  refine l_sld (pc := 1124) dL_law_1124 hi11 ?_
  refine e_aload_n (pc := 1125) (i := 0) dL_law_1125 rfl rfl ?_
  refine e_iload_n (pc := 1126) (i := 3) dL_law_1126 rfl rfl ?_
  refine e_iconst (pc := 1127) (v := 2) dL_law_1127 (by decide) ?_
  refine e_iadd (pc := 1128) dL_law_1128 ?_
  have hi12 := hv.1
  replace hv := hv.2
  refine l_sld (pc := 1129) dL_law_1129 hi12 ?_
  refine e_aload_n (pc := 1130) (i := 0) dL_law_1130 rfl rfl ?_
  refine e_iload_n (pc := 1131) (i := 3) dL_law_1131 rfl rfl ?_
  refine e_iconst (pc := 1132) (v := 3) dL_law_1132 (by decide) ?_
  refine e_iadd (pc := 1133) dL_law_1133 ?_
  have hi13 := hv.1
  replace hv := hv.2
  refine l_sld (pc := 1134) dL_law_1134 hi13 ?_
  refine e_aload_n (pc := 1135) (i := 0) dL_law_1135 rfl rfl ?_
  refine e_iload_n (pc := 1136) (i := 3) dL_law_1136 rfl rfl ?_
  refine e_iconst (pc := 1137) (v := 4) dL_law_1137 (by decide) ?_
  refine e_iadd (pc := 1138) dL_law_1138 ?_
  have hi14 := hv.1
  replace hv := hv.2
  refine l_sld (pc := 1139) dL_law_1139 hi14 ?_
  have k17 := hv.1
  replace hv := hv.2
  refine e_callVi (pc := 1140) (ci := 11) (st := [vI x9]) (rc' := rc5) (rs' := rs6) (B' := bX11_as) [vI (xs (l3 + 1).toNatClampNeg), vI (xs (l3 + 2).toNatClampNeg), vI (xs (l3 + 3).toNatClampNeg), vI (xs (l3 + 4).toNatClampNeg)] dL_law_1140 vRL_112 kX11_as (by decide) rfl k17 rfl rfl (Nat.le_of_ble_eq_true rfl) ⟨Nat.le_of_ble_eq_true rfl, Nat.le_of_ble_eq_true rfl⟩ rfl rfl hv (fun x16 w15 hv => ?_)
  refine e_icmp_eq (pc := 1143) (tgt := 1707) dL_law_1143 (by decide) (fun h18 => ?_) (fun h18 => ?_)
  · replace hv := hv.1 h18
    exact hv
  · replace hv := hv.2 h18
    refine e_iconst (pc := 1146) (v := 0) dL_law_1146 (by decide) ?_
    exact hv.elim
set_option maxRecDepth 100000 in
set_option maxHeartbeats 4000000 in
theorem tL_law_1062 (X : Cx) (b L : Nat) (xs : Nat → Int32) (rc rs : Nat) (l1 l2 : Nat) (l3 : Int32) (w : Wd)
    (hv : vp_in (l3 + 1) L ∧ vp_in (l3 + 2) L ∧ ∃ rc3 rs4 : Nat, (rc = rc3 + 1 ∧ rs = rs4 + 5) ∧ wK w l1 = 11 ∧ Ct X bX10_why mX10_why [vR l1, vI (xs (l3 + 1).toNatClampNeg), vI (xs (l3 + 2).toNatClampNeg)] w (qI fun x7 w6 => vp_in (l3 + 1) L ∧ vp_in (l3 + 2) L ∧ wK w6 l2 = 12 ∧ Ct X bX11_why mX11_why [vR l2, vI (xs (l3 + 1).toNatClampNeg), vI (xs (l3 + 2).toNatClampNeg)] w6 (qI fun x12 w11 => ((x7 = x12) → jL_law_1707 X b L xs rc3 rs4 l1 l2 l3 w11) ∧ ((¬ x7 = x12) → False)))) :
    jL_law_1062 X b L xs rc rs l1 l2 l3 w := by
  refine e_aload_n (pc := 1062) (i := 1) dL_law_1062 rfl rfl ?_
  refine e_aload_n (pc := 1063) (i := 0) dL_law_1063 rfl rfl ?_
  refine e_iload_n (pc := 1064) (i := 3) dL_law_1064 rfl rfl ?_
  refine e_iconst (pc := 1065) (v := 1) dL_law_1065 (by decide) ?_
  refine e_iadd (pc := 1066) dL_law_1066 ?_
  have hi1 := hv.1
  replace hv := hv.2
  refine l_sld (pc := 1067) dL_law_1067 hi1 ?_
  refine e_aload_n (pc := 1068) (i := 0) dL_law_1068 rfl rfl ?_
  refine e_iload_n (pc := 1069) (i := 3) dL_law_1069 rfl rfl ?_
  refine e_iconst (pc := 1070) (v := 2) dL_law_1070 (by decide) ?_
  refine e_iadd (pc := 1071) dL_law_1071 ?_
  have hi2 := hv.1
  replace hv := hv.2
  refine l_sld (pc := 1072) dL_law_1072 hi2 ?_
  obtain ⟨rc3, rs4, hr5, hv⟩ := hv
  have k8 := hv.1
  replace hv := hv.2
  refine e_callVi (pc := 1073) (ci := 10) (st := []) (rc' := rc3) (rs' := rs4) (B' := bX10_why) [vI (xs (l3 + 1).toNatClampNeg), vI (xs (l3 + 2).toNatClampNeg)] dL_law_1073 vRL_104 kX10_why (by decide) rfl k8 rfl rfl (Nat.le_of_ble_eq_true rfl) ⟨Nat.le_of_ble_eq_true rfl, Nat.le_of_ble_eq_true rfl⟩ hr5.1 hr5.2 hv (fun x7 w6 hv => ?_)
  refine e_aload_n (pc := 1076) (i := 2) dL_law_1076 rfl rfl ?_
  refine e_aload_n (pc := 1077) (i := 0) dL_law_1077 rfl rfl ?_
  refine e_iload_n (pc := 1078) (i := 3) dL_law_1078 rfl rfl ?_
  refine e_iconst (pc := 1079) (v := 1) dL_law_1079 (by decide) ?_
  refine e_iadd (pc := 1080) dL_law_1080 ?_
  have hi9 := hv.1
  replace hv := hv.2
  refine l_sld (pc := 1081) dL_law_1081 hi9 ?_
  refine e_aload_n (pc := 1082) (i := 0) dL_law_1082 rfl rfl ?_
  refine e_iload_n (pc := 1083) (i := 3) dL_law_1083 rfl rfl ?_
  refine e_iconst (pc := 1084) (v := 2) dL_law_1084 (by decide) ?_
  refine e_iadd (pc := 1085) dL_law_1085 ?_
  have hi10 := hv.1
  replace hv := hv.2
  refine l_sld (pc := 1086) dL_law_1086 hi10 ?_
  have k13 := hv.1
  replace hv := hv.2
  refine e_callVi (pc := 1087) (ci := 11) (st := [vI x7]) (rc' := rc3) (rs' := rs4) (B' := bX11_why) [vI (xs (l3 + 1).toNatClampNeg), vI (xs (l3 + 2).toNatClampNeg)] dL_law_1087 vRL_107 kX11_why (by decide) rfl k13 rfl rfl (Nat.le_of_ble_eq_true rfl) ⟨Nat.le_of_ble_eq_true rfl, Nat.le_of_ble_eq_true rfl⟩ rfl rfl hv (fun x12 w11 hv => ?_)
  refine e_icmp_eq (pc := 1090) (tgt := 1707) dL_law_1090 (by decide) (fun h14 => ?_) (fun h14 => ?_)
  · replace hv := hv.1 h14
    exact hv
  · replace hv := hv.2 h14
    refine e_iconst (pc := 1093) (v := 0) dL_law_1093 (by decide) ?_
    exact hv.elim
set_option maxRecDepth 100000 in
set_option maxHeartbeats 4000000 in
theorem tL_law_1029 (X : Cx) (b L : Nat) (xs : Nat → Int32) (rc rs : Nat) (l1 l2 : Nat) (l3 : Int32) (w : Wd)
    (hv : vp_in (l3 + 1) L ∧ vp_in (l3 + 2) L ∧ ∃ rc3 rs4 : Nat, (rc = rc3 + 1 ∧ rs = rs4 + 5) ∧ wK w l1 = 11 ∧ Ct X bX10_rank mX10_rank [vR l1, vI (xs (l3 + 1).toNatClampNeg), vI (xs (l3 + 2).toNatClampNeg)] w (qI fun x7 w6 => vp_in (l3 + 1) L ∧ vp_in (l3 + 2) L ∧ wK w6 l2 = 12 ∧ Ct X bX11_rank mX11_rank [vR l2, vI (xs (l3 + 1).toNatClampNeg), vI (xs (l3 + 2).toNatClampNeg)] w6 (qI fun x12 w11 => ((x7 = x12) → jL_law_1707 X b L xs rc3 rs4 l1 l2 l3 w11) ∧ ((¬ x7 = x12) → False)))) :
    jL_law_1029 X b L xs rc rs l1 l2 l3 w := by
  refine e_aload_n (pc := 1029) (i := 1) dL_law_1029 rfl rfl ?_
  refine e_aload_n (pc := 1030) (i := 0) dL_law_1030 rfl rfl ?_
  refine e_iload_n (pc := 1031) (i := 3) dL_law_1031 rfl rfl ?_
  refine e_iconst (pc := 1032) (v := 1) dL_law_1032 (by decide) ?_
  refine e_iadd (pc := 1033) dL_law_1033 ?_
  have hi1 := hv.1
  replace hv := hv.2
  refine l_sld (pc := 1034) dL_law_1034 hi1 ?_
  refine e_aload_n (pc := 1035) (i := 0) dL_law_1035 rfl rfl ?_
  refine e_iload_n (pc := 1036) (i := 3) dL_law_1036 rfl rfl ?_
  refine e_iconst (pc := 1037) (v := 2) dL_law_1037 (by decide) ?_
  refine e_iadd (pc := 1038) dL_law_1038 ?_
  have hi2 := hv.1
  replace hv := hv.2
  refine l_sld (pc := 1039) dL_law_1039 hi2 ?_
  obtain ⟨rc3, rs4, hr5, hv⟩ := hv
  have k8 := hv.1
  replace hv := hv.2
  refine e_callVi (pc := 1040) (ci := 10) (st := []) (rc' := rc3) (rs' := rs4) (B' := bX10_rank) [vI (xs (l3 + 1).toNatClampNeg), vI (xs (l3 + 2).toNatClampNeg)] dL_law_1040 vRL_100 kX10_rank (by decide) rfl k8 rfl rfl (Nat.le_of_ble_eq_true rfl) ⟨Nat.le_of_ble_eq_true rfl, Nat.le_of_ble_eq_true rfl⟩ hr5.1 hr5.2 hv (fun x7 w6 hv => ?_)
  refine e_aload_n (pc := 1043) (i := 2) dL_law_1043 rfl rfl ?_
  refine e_aload_n (pc := 1044) (i := 0) dL_law_1044 rfl rfl ?_
  refine e_iload_n (pc := 1045) (i := 3) dL_law_1045 rfl rfl ?_
  refine e_iconst (pc := 1046) (v := 1) dL_law_1046 (by decide) ?_
  refine e_iadd (pc := 1047) dL_law_1047 ?_
  have hi9 := hv.1
  replace hv := hv.2
  refine l_sld (pc := 1048) dL_law_1048 hi9 ?_
  refine e_aload_n (pc := 1049) (i := 0) dL_law_1049 rfl rfl ?_
  refine e_iload_n (pc := 1050) (i := 3) dL_law_1050 rfl rfl ?_
  refine e_iconst (pc := 1051) (v := 2) dL_law_1051 (by decide) ?_
  refine e_iadd (pc := 1052) dL_law_1052 ?_
  have hi10 := hv.1
  replace hv := hv.2
  refine l_sld (pc := 1053) dL_law_1053 hi10 ?_
  have k13 := hv.1
  replace hv := hv.2
  refine e_callVi (pc := 1054) (ci := 11) (st := [vI x7]) (rc' := rc3) (rs' := rs4) (B' := bX11_rank) [vI (xs (l3 + 1).toNatClampNeg), vI (xs (l3 + 2).toNatClampNeg)] dL_law_1054 vRL_103 kX11_rank (by decide) rfl k13 rfl rfl (Nat.le_of_ble_eq_true rfl) ⟨Nat.le_of_ble_eq_true rfl, Nat.le_of_ble_eq_true rfl⟩ rfl rfl hv (fun x12 w11 hv => ?_)
  refine e_icmp_eq (pc := 1057) (tgt := 1707) dL_law_1057 (by decide) (fun h14 => ?_) (fun h14 => ?_)
  · replace hv := hv.1 h14
    exact hv
  · replace hv := hv.2 h14
    refine e_iconst (pc := 1060) (v := 0) dL_law_1060 (by decide) ?_
    exact hv.elim
set_option maxRecDepth 100000 in
set_option maxHeartbeats 4000000 in
theorem tL_law_986 (X : Cx) (b L : Nat) (xs : Nat → Int32) (rc rs : Nat) (l1 l2 : Nat) (l3 : Int32) (w : Wd)
    (hv : vp_in (l3 + 1) L ∧ vp_in (l3 + 2) L ∧ vp_in (l3 + 3) L ∧ ∃ rc4 rs5 : Nat, (rc = rc4 + 1 ∧ rs = rs5 + 5) ∧ wK w l1 = 11 ∧ Ct X bX10_list mX10_list [vR l1, vI (xs (l3 + 1).toNatClampNeg), vI (xs (l3 + 2).toNatClampNeg), vI (xs (l3 + 3).toNatClampNeg)] w (qI fun x8 w7 => vp_in (l3 + 1) L ∧ vp_in (l3 + 2) L ∧ vp_in (l3 + 3) L ∧ wK w7 l2 = 12 ∧ Ct X bX11_list mX11_list [vR l2, vI (xs (l3 + 1).toNatClampNeg), vI (xs (l3 + 2).toNatClampNeg), vI (xs (l3 + 3).toNatClampNeg)] w7 (qI fun x14 w13 => ((x8 = x14) → jL_law_1707 X b L xs rc4 rs5 l1 l2 l3 w13) ∧ ((¬ x8 = x14) → False)))) :
    jL_law_986 X b L xs rc rs l1 l2 l3 w := by
  refine e_aload_n (pc := 986) (i := 1) dL_law_986 rfl rfl ?_
  refine e_aload_n (pc := 987) (i := 0) dL_law_987 rfl rfl ?_
  refine e_iload_n (pc := 988) (i := 3) dL_law_988 rfl rfl ?_
  refine e_iconst (pc := 989) (v := 1) dL_law_989 (by decide) ?_
  refine e_iadd (pc := 990) dL_law_990 ?_
  have hi1 := hv.1
  replace hv := hv.2
  refine l_sld (pc := 991) dL_law_991 hi1 ?_
  refine e_aload_n (pc := 992) (i := 0) dL_law_992 rfl rfl ?_
  refine e_iload_n (pc := 993) (i := 3) dL_law_993 rfl rfl ?_
  refine e_iconst (pc := 994) (v := 2) dL_law_994 (by decide) ?_
  refine e_iadd (pc := 995) dL_law_995 ?_
  have hi2 := hv.1
  replace hv := hv.2
  refine l_sld (pc := 996) dL_law_996 hi2 ?_
  refine e_aload_n (pc := 997) (i := 0) dL_law_997 rfl rfl ?_
  refine e_iload_n (pc := 998) (i := 3) dL_law_998 rfl rfl ?_
  refine e_iconst (pc := 999) (v := 3) dL_law_999 (by decide) ?_
  refine e_iadd (pc := 1000) dL_law_1000 ?_
  have hi3 := hv.1
  replace hv := hv.2
  refine l_sld (pc := 1001) dL_law_1001 hi3 ?_
  obtain ⟨rc4, rs5, hr6, hv⟩ := hv
  have k9 := hv.1
  replace hv := hv.2
  refine e_callVi (pc := 1002) (ci := 10) (st := []) (rc' := rc4) (rs' := rs5) (B' := bX10_list) [vI (xs (l3 + 1).toNatClampNeg), vI (xs (l3 + 2).toNatClampNeg), vI (xs (l3 + 3).toNatClampNeg)] dL_law_1002 vRL_95 kX10_list (by decide) rfl k9 rfl rfl (Nat.le_of_ble_eq_true rfl) ⟨Nat.le_of_ble_eq_true rfl, Nat.le_of_ble_eq_true rfl⟩ hr6.1 hr6.2 hv (fun x8 w7 hv => ?_)
  refine e_aload_n (pc := 1005) (i := 2) dL_law_1005 rfl rfl ?_
  refine e_aload_n (pc := 1006) (i := 0) dL_law_1006 rfl rfl ?_
  refine e_iload_n (pc := 1007) (i := 3) dL_law_1007 rfl rfl ?_
  refine e_iconst (pc := 1008) (v := 1) dL_law_1008 (by decide) ?_
  refine e_iadd (pc := 1009) dL_law_1009 ?_
  have hi10 := hv.1
  replace hv := hv.2
  refine l_sld (pc := 1010) dL_law_1010 hi10 ?_
  refine e_aload_n (pc := 1011) (i := 0) dL_law_1011 rfl rfl ?_
  refine e_iload_n (pc := 1012) (i := 3) dL_law_1012 rfl rfl ?_
  refine e_iconst (pc := 1013) (v := 2) dL_law_1013 (by decide) ?_
  refine e_iadd (pc := 1014) dL_law_1014 ?_
  have hi11 := hv.1
  replace hv := hv.2
  refine l_sld (pc := 1015) dL_law_1015 hi11 ?_
  refine e_aload_n (pc := 1016) (i := 0) dL_law_1016 rfl rfl ?_
  refine e_iload_n (pc := 1017) (i := 3) dL_law_1017 rfl rfl ?_
  refine e_iconst (pc := 1018) (v := 3) dL_law_1018 (by decide) ?_
  refine e_iadd (pc := 1019) dL_law_1019 ?_
  have hi12 := hv.1
  replace hv := hv.2
  refine l_sld (pc := 1020) dL_law_1020 hi12 ?_
  have k15 := hv.1
  replace hv := hv.2
  refine e_callVi (pc := 1021) (ci := 11) (st := [vI x8]) (rc' := rc4) (rs' := rs5) (B' := bX11_list) [vI (xs (l3 + 1).toNatClampNeg), vI (xs (l3 + 2).toNatClampNeg), vI (xs (l3 + 3).toNatClampNeg)] dL_law_1021 vRL_99 kX11_list (by decide) rfl k15 rfl rfl (Nat.le_of_ble_eq_true rfl) ⟨Nat.le_of_ble_eq_true rfl, Nat.le_of_ble_eq_true rfl⟩ rfl rfl hv (fun x14 w13 hv => ?_)
  refine e_icmp_eq (pc := 1024) (tgt := 1707) dL_law_1024 (by decide) (fun h16 => ?_) (fun h16 => ?_)
  · replace hv := hv.1 h16
    exact hv
  · replace hv := hv.2 h16
    refine e_iconst (pc := 1027) (v := 0) dL_law_1027 (by decide) ?_
    exact hv.elim
set_option maxRecDepth 100000 in
set_option maxHeartbeats 4000000 in
theorem tL_law_953 (X : Cx) (b L : Nat) (xs : Nat → Int32) (rc rs : Nat) (l1 l2 : Nat) (l3 : Int32) (w : Wd)
    (hv : vp_in (l3 + 1) L ∧ vp_in (l3 + 2) L ∧ ∃ rc3 rs4 : Nat, (rc = rc3 + 1 ∧ rs = rs4 + 5) ∧ wK w l1 = 11 ∧ Ct X bX10_many mX10_many [vR l1, vI (xs (l3 + 1).toNatClampNeg), vI (xs (l3 + 2).toNatClampNeg)] w (qI fun x7 w6 => vp_in (l3 + 1) L ∧ vp_in (l3 + 2) L ∧ wK w6 l2 = 12 ∧ Ct X bX11_many mX11_many [vR l2, vI (xs (l3 + 1).toNatClampNeg), vI (xs (l3 + 2).toNatClampNeg)] w6 (qI fun x12 w11 => ((x7 = x12) → jL_law_1707 X b L xs rc3 rs4 l1 l2 l3 w11) ∧ ((¬ x7 = x12) → False)))) :
    jL_law_953 X b L xs rc rs l1 l2 l3 w := by
  refine e_aload_n (pc := 953) (i := 1) dL_law_953 rfl rfl ?_
  refine e_aload_n (pc := 954) (i := 0) dL_law_954 rfl rfl ?_
  refine e_iload_n (pc := 955) (i := 3) dL_law_955 rfl rfl ?_
  refine e_iconst (pc := 956) (v := 1) dL_law_956 (by decide) ?_
  refine e_iadd (pc := 957) dL_law_957 ?_
  have hi1 := hv.1
  replace hv := hv.2
  refine l_sld (pc := 958) dL_law_958 hi1 ?_
  refine e_aload_n (pc := 959) (i := 0) dL_law_959 rfl rfl ?_
  refine e_iload_n (pc := 960) (i := 3) dL_law_960 rfl rfl ?_
  refine e_iconst (pc := 961) (v := 2) dL_law_961 (by decide) ?_
  refine e_iadd (pc := 962) dL_law_962 ?_
  have hi2 := hv.1
  replace hv := hv.2
  refine l_sld (pc := 963) dL_law_963 hi2 ?_
  obtain ⟨rc3, rs4, hr5, hv⟩ := hv
  have k8 := hv.1
  replace hv := hv.2
  refine e_callVi (pc := 964) (ci := 10) (st := []) (rc' := rc3) (rs' := rs4) (B' := bX10_many) [vI (xs (l3 + 1).toNatClampNeg), vI (xs (l3 + 2).toNatClampNeg)] dL_law_964 vRL_90 kX10_many (by decide) rfl k8 rfl rfl (Nat.le_of_ble_eq_true rfl) ⟨Nat.le_of_ble_eq_true rfl, Nat.le_of_ble_eq_true rfl⟩ hr5.1 hr5.2 hv (fun x7 w6 hv => ?_)
  refine e_aload_n (pc := 967) (i := 2) dL_law_967 rfl rfl ?_
  refine e_aload_n (pc := 968) (i := 0) dL_law_968 rfl rfl ?_
  refine e_iload_n (pc := 969) (i := 3) dL_law_969 rfl rfl ?_
  refine e_iconst (pc := 970) (v := 1) dL_law_970 (by decide) ?_
  refine e_iadd (pc := 971) dL_law_971 ?_
  have hi9 := hv.1
  replace hv := hv.2
  refine l_sld (pc := 972) dL_law_972 hi9 ?_
  refine e_aload_n (pc := 973) (i := 0) dL_law_973 rfl rfl ?_
  refine e_iload_n (pc := 974) (i := 3) dL_law_974 rfl rfl ?_
  refine e_iconst (pc := 975) (v := 2) dL_law_975 (by decide) ?_
  refine e_iadd (pc := 976) dL_law_976 ?_
  have hi10 := hv.1
  replace hv := hv.2
  refine l_sld (pc := 977) dL_law_977 hi10 ?_
  have k13 := hv.1
  replace hv := hv.2
  refine e_callVi (pc := 978) (ci := 11) (st := [vI x7]) (rc' := rc3) (rs' := rs4) (B' := bX11_many) [vI (xs (l3 + 1).toNatClampNeg), vI (xs (l3 + 2).toNatClampNeg)] dL_law_978 vRL_94 kX11_many (by decide) rfl k13 rfl rfl (Nat.le_of_ble_eq_true rfl) ⟨Nat.le_of_ble_eq_true rfl, Nat.le_of_ble_eq_true rfl⟩ rfl rfl hv (fun x12 w11 hv => ?_)
  refine e_icmp_eq (pc := 981) (tgt := 1707) dL_law_981 (by decide) (fun h14 => ?_) (fun h14 => ?_)
  · replace hv := hv.1 h14
    exact hv
  · replace hv := hv.2 h14
    refine e_iconst (pc := 984) (v := 0) dL_law_984 (by decide) ?_
    exact hv.elim
set_option maxRecDepth 100000 in
set_option maxHeartbeats 4000000 in
theorem tL_law_920 (X : Cx) (b L : Nat) (xs : Nat → Int32) (rc rs : Nat) (l1 l2 : Nat) (l3 : Int32) (w : Wd)
    (hv : vp_in (l3 + 1) L ∧ vp_in (l3 + 2) L ∧ ∃ rc3 rs4 : Nat, (rc = rc3 + 1 ∧ rs = rs4 + 2) ∧ wK w l1 = 11 ∧ Ct X bX10_keep mX10_keep [vR l1, vI (xs (l3 + 1).toNatClampNeg), vI (xs (l3 + 2).toNatClampNeg)] w (qI fun x7 w6 => vp_in (l3 + 1) L ∧ vp_in (l3 + 2) L ∧ wK w6 l2 = 12 ∧ Ct X bX11_keep mX11_keep [vR l2, vI (xs (l3 + 1).toNatClampNeg), vI (xs (l3 + 2).toNatClampNeg)] w6 (qI fun x12 w11 => ((x7 = x12) → jL_law_1707 X b L xs rc3 rs4 l1 l2 l3 w11) ∧ ((¬ x7 = x12) → False)))) :
    jL_law_920 X b L xs rc rs l1 l2 l3 w := by
  refine e_aload_n (pc := 920) (i := 1) dL_law_920 rfl rfl ?_
  refine e_aload_n (pc := 921) (i := 0) dL_law_921 rfl rfl ?_
  refine e_iload_n (pc := 922) (i := 3) dL_law_922 rfl rfl ?_
  refine e_iconst (pc := 923) (v := 1) dL_law_923 (by decide) ?_
  refine e_iadd (pc := 924) dL_law_924 ?_
  have hi1 := hv.1
  replace hv := hv.2
  refine l_sld (pc := 925) dL_law_925 hi1 ?_
  refine e_aload_n (pc := 926) (i := 0) dL_law_926 rfl rfl ?_
  refine e_iload_n (pc := 927) (i := 3) dL_law_927 rfl rfl ?_
  refine e_iconst (pc := 928) (v := 2) dL_law_928 (by decide) ?_
  refine e_iadd (pc := 929) dL_law_929 ?_
  have hi2 := hv.1
  replace hv := hv.2
  refine l_sld (pc := 930) dL_law_930 hi2 ?_
  obtain ⟨rc3, rs4, hr5, hv⟩ := hv
  have k8 := hv.1
  replace hv := hv.2
  refine e_callVi (pc := 931) (ci := 10) (st := []) (rc' := rc3) (rs' := rs4) (B' := bX10_keep) [vI (xs (l3 + 1).toNatClampNeg), vI (xs (l3 + 2).toNatClampNeg)] dL_law_931 vRL_86 kX10_keep (by decide) rfl k8 rfl rfl (Nat.le_of_ble_eq_true rfl) ⟨Nat.le_of_ble_eq_true rfl, Nat.le_of_ble_eq_true rfl⟩ hr5.1 hr5.2 hv (fun x7 w6 hv => ?_)
  refine e_aload_n (pc := 934) (i := 2) dL_law_934 rfl rfl ?_
  refine e_aload_n (pc := 935) (i := 0) dL_law_935 rfl rfl ?_
  refine e_iload_n (pc := 936) (i := 3) dL_law_936 rfl rfl ?_
  refine e_iconst (pc := 937) (v := 1) dL_law_937 (by decide) ?_
  refine e_iadd (pc := 938) dL_law_938 ?_
  have hi9 := hv.1
  replace hv := hv.2
  refine l_sld (pc := 939) dL_law_939 hi9 ?_
  refine e_aload_n (pc := 940) (i := 0) dL_law_940 rfl rfl ?_
  refine e_iload_n (pc := 941) (i := 3) dL_law_941 rfl rfl ?_
  refine e_iconst (pc := 942) (v := 2) dL_law_942 (by decide) ?_
  refine e_iadd (pc := 943) dL_law_943 ?_
  have hi10 := hv.1
  replace hv := hv.2
  refine l_sld (pc := 944) dL_law_944 hi10 ?_
  have k13 := hv.1
  replace hv := hv.2
  refine e_callVi (pc := 945) (ci := 11) (st := [vI x7]) (rc' := rc3) (rs' := rs4) (B' := bX11_keep) [vI (xs (l3 + 1).toNatClampNeg), vI (xs (l3 + 2).toNatClampNeg)] dL_law_945 vRL_89 kX11_keep (by decide) rfl k13 rfl rfl (Nat.le_of_ble_eq_true rfl) ⟨Nat.le_of_ble_eq_true rfl, Nat.le_of_ble_eq_true rfl⟩ rfl rfl hv (fun x12 w11 hv => ?_)
  refine e_icmp_eq (pc := 948) (tgt := 1707) dL_law_948 (by decide) (fun h14 => ?_) (fun h14 => ?_)
  · replace hv := hv.1 h14
    exact hv
  · replace hv := hv.2 h14
    refine e_iconst (pc := 951) (v := 0) dL_law_951 (by decide) ?_
    exact hv.elim
set_option maxRecDepth 100000 in
set_option maxHeartbeats 4000000 in
theorem tL_law_897 (X : Cx) (b L : Nat) (xs : Nat → Int32) (rc rs : Nat) (l1 l2 : Nat) (l3 : Int32) (w : Wd)
    (hv : vp_in (l3 + 1) L ∧ ∃ rc2 rs3 : Nat, (rc = rc2 + 1 ∧ rs = rs3 + 2) ∧ wK w l1 = 11 ∧ Ct X bX10_strike mX10_strike [vR l1, vI (xs (l3 + 1).toNatClampNeg)] w (qI fun x6 w5 => vp_in (l3 + 1) L ∧ wK w5 l2 = 12 ∧ Ct X bX11_strike mX11_strike [vR l2, vI (xs (l3 + 1).toNatClampNeg)] w5 (qI fun x10 w9 => ((x6 = x10) → jL_law_1707 X b L xs rc2 rs3 l1 l2 l3 w9) ∧ ((¬ x6 = x10) → False)))) :
    jL_law_897 X b L xs rc rs l1 l2 l3 w := by
  refine e_aload_n (pc := 897) (i := 1) dL_law_897 rfl rfl ?_
  refine e_aload_n (pc := 898) (i := 0) dL_law_898 rfl rfl ?_
  refine e_iload_n (pc := 899) (i := 3) dL_law_899 rfl rfl ?_
  refine e_iconst (pc := 900) (v := 1) dL_law_900 (by decide) ?_
  refine e_iadd (pc := 901) dL_law_901 ?_
  have hi1 := hv.1
  replace hv := hv.2
  refine l_sld (pc := 902) dL_law_902 hi1 ?_
  obtain ⟨rc2, rs3, hr4, hv⟩ := hv
  have k7 := hv.1
  replace hv := hv.2
  refine e_callVi (pc := 903) (ci := 10) (st := []) (rc' := rc2) (rs' := rs3) (B' := bX10_strike) [vI (xs (l3 + 1).toNatClampNeg)] dL_law_903 vRL_82 kX10_strike (by decide) rfl k7 rfl rfl (Nat.le_of_ble_eq_true rfl) ⟨Nat.le_of_ble_eq_true rfl, Nat.le_of_ble_eq_true rfl⟩ hr4.1 hr4.2 hv (fun x6 w5 hv => ?_)
  refine e_aload_n (pc := 906) (i := 2) dL_law_906 rfl rfl ?_
  refine e_aload_n (pc := 907) (i := 0) dL_law_907 rfl rfl ?_
  refine e_iload_n (pc := 908) (i := 3) dL_law_908 rfl rfl ?_
  refine e_iconst (pc := 909) (v := 1) dL_law_909 (by decide) ?_
  refine e_iadd (pc := 910) dL_law_910 ?_
  have hi8 := hv.1
  replace hv := hv.2
  refine l_sld (pc := 911) dL_law_911 hi8 ?_
  have k11 := hv.1
  replace hv := hv.2
  refine e_callVi (pc := 912) (ci := 11) (st := [vI x6]) (rc' := rc2) (rs' := rs3) (B' := bX11_strike) [vI (xs (l3 + 1).toNatClampNeg)] dL_law_912 vRL_85 kX11_strike (by decide) rfl k11 rfl rfl (Nat.le_of_ble_eq_true rfl) ⟨Nat.le_of_ble_eq_true rfl, Nat.le_of_ble_eq_true rfl⟩ rfl rfl hv (fun x10 w9 hv => ?_)
  refine e_icmp_eq (pc := 915) (tgt := 1707) dL_law_915 (by decide) (fun h12 => ?_) (fun h12 => ?_)
  · replace hv := hv.1 h12
    exact hv
  · replace hv := hv.2 h12
    refine e_iconst (pc := 918) (v := 0) dL_law_918 (by decide) ?_
    exact hv.elim
set_option maxRecDepth 100000 in
set_option maxHeartbeats 4000000 in
theorem tL_law_864 (X : Cx) (b L : Nat) (xs : Nat → Int32) (rc rs : Nat) (l1 l2 : Nat) (l3 : Int32) (w : Wd)
    (hv : vp_in (l3 + 1) L ∧ vp_in (l3 + 2) L ∧ ∃ rc3 rs4 : Nat, (rc = rc3 + 2 ∧ rs = rs4 + 62) ∧ wK w l1 = 11 ∧ Ct X bX10_release mX10_release [vR l1, vI (xs (l3 + 1).toNatClampNeg), vI (xs (l3 + 2).toNatClampNeg)] w (qI fun x7 w6 => vp_in (l3 + 1) L ∧ vp_in (l3 + 2) L ∧ wK w6 l2 = 12 ∧ Ct X bX11_release mX11_release [vR l2, vI (xs (l3 + 1).toNatClampNeg), vI (xs (l3 + 2).toNatClampNeg)] w6 (qI fun x12 w11 => ((x7 = x12) → jL_law_1707 X b L xs rc3 rs4 l1 l2 l3 w11) ∧ ((¬ x7 = x12) → False)))) :
    jL_law_864 X b L xs rc rs l1 l2 l3 w := by
  refine e_aload_n (pc := 864) (i := 1) dL_law_864 rfl rfl ?_
  refine e_aload_n (pc := 865) (i := 0) dL_law_865 rfl rfl ?_
  refine e_iload_n (pc := 866) (i := 3) dL_law_866 rfl rfl ?_
  refine e_iconst (pc := 867) (v := 1) dL_law_867 (by decide) ?_
  refine e_iadd (pc := 868) dL_law_868 ?_
  have hi1 := hv.1
  replace hv := hv.2
  refine l_sld (pc := 869) dL_law_869 hi1 ?_
  refine e_aload_n (pc := 870) (i := 0) dL_law_870 rfl rfl ?_
  refine e_iload_n (pc := 871) (i := 3) dL_law_871 rfl rfl ?_
  refine e_iconst (pc := 872) (v := 2) dL_law_872 (by decide) ?_
  refine e_iadd (pc := 873) dL_law_873 ?_
  have hi2 := hv.1
  replace hv := hv.2
  refine l_sld (pc := 874) dL_law_874 hi2 ?_
  obtain ⟨rc3, rs4, hr5, hv⟩ := hv
  have k8 := hv.1
  replace hv := hv.2
  refine e_callVi (pc := 875) (ci := 10) (st := []) (rc' := rc3) (rs' := rs4) (B' := bX10_release) [vI (xs (l3 + 1).toNatClampNeg), vI (xs (l3 + 2).toNatClampNeg)] dL_law_875 vRL_78 kX10_release (by decide) rfl k8 rfl rfl (Nat.le_of_ble_eq_true rfl) ⟨Nat.le_of_ble_eq_true rfl, Nat.le_of_ble_eq_true rfl⟩ hr5.1 hr5.2 hv (fun x7 w6 hv => ?_)
  refine e_aload_n (pc := 878) (i := 2) dL_law_878 rfl rfl ?_
  refine e_aload_n (pc := 879) (i := 0) dL_law_879 rfl rfl ?_
  refine e_iload_n (pc := 880) (i := 3) dL_law_880 rfl rfl ?_
  refine e_iconst (pc := 881) (v := 1) dL_law_881 (by decide) ?_
  refine e_iadd (pc := 882) dL_law_882 ?_
  have hi9 := hv.1
  replace hv := hv.2
  refine l_sld (pc := 883) dL_law_883 hi9 ?_
  refine e_aload_n (pc := 884) (i := 0) dL_law_884 rfl rfl ?_
  refine e_iload_n (pc := 885) (i := 3) dL_law_885 rfl rfl ?_
  refine e_iconst (pc := 886) (v := 2) dL_law_886 (by decide) ?_
  refine e_iadd (pc := 887) dL_law_887 ?_
  have hi10 := hv.1
  replace hv := hv.2
  refine l_sld (pc := 888) dL_law_888 hi10 ?_
  have k13 := hv.1
  replace hv := hv.2
  refine e_callVi (pc := 889) (ci := 11) (st := [vI x7]) (rc' := rc3) (rs' := rs4) (B' := bX11_release) [vI (xs (l3 + 1).toNatClampNeg), vI (xs (l3 + 2).toNatClampNeg)] dL_law_889 vRL_81 kX11_release (by decide) rfl k13 rfl rfl (Nat.le_of_ble_eq_true rfl) ⟨Nat.le_of_ble_eq_true rfl, Nat.le_of_ble_eq_true rfl⟩ rfl rfl hv (fun x12 w11 hv => ?_)
  refine e_icmp_eq (pc := 892) (tgt := 1707) dL_law_892 (by decide) (fun h14 => ?_) (fun h14 => ?_)
  · replace hv := hv.1 h14
    exact hv
  · replace hv := hv.2 h14
    refine e_iconst (pc := 895) (v := 0) dL_law_895 (by decide) ?_
    exact hv.elim
set_option maxRecDepth 100000 in
set_option maxHeartbeats 4000000 in
theorem tL_law_841 (X : Cx) (b L : Nat) (xs : Nat → Int32) (rc rs : Nat) (l1 l2 : Nat) (l3 : Int32) (w : Wd)
    (hv : vp_in (l3 + 1) L ∧ ∃ rc2 rs3 : Nat, (rc = rc2 + 1 ∧ rs = rs3 + 2) ∧ wK w l1 = 11 ∧ Ct X bX10_undo mX10_undo [vR l1, vI (xs (l3 + 1).toNatClampNeg)] w (qI fun x6 w5 => vp_in (l3 + 1) L ∧ wK w5 l2 = 12 ∧ Ct X bX11_undo mX11_undo [vR l2, vI (xs (l3 + 1).toNatClampNeg)] w5 (qI fun x10 w9 => ((x6 = x10) → jL_law_1707 X b L xs rc2 rs3 l1 l2 l3 w9) ∧ ((¬ x6 = x10) → False)))) :
    jL_law_841 X b L xs rc rs l1 l2 l3 w := by
  refine e_aload_n (pc := 841) (i := 1) dL_law_841 rfl rfl ?_
  refine e_aload_n (pc := 842) (i := 0) dL_law_842 rfl rfl ?_
  refine e_iload_n (pc := 843) (i := 3) dL_law_843 rfl rfl ?_
  refine e_iconst (pc := 844) (v := 1) dL_law_844 (by decide) ?_
  refine e_iadd (pc := 845) dL_law_845 ?_
  have hi1 := hv.1
  replace hv := hv.2
  refine l_sld (pc := 846) dL_law_846 hi1 ?_
  obtain ⟨rc2, rs3, hr4, hv⟩ := hv
  have k7 := hv.1
  replace hv := hv.2
  refine e_callVi (pc := 847) (ci := 10) (st := []) (rc' := rc2) (rs' := rs3) (B' := bX10_undo) [vI (xs (l3 + 1).toNatClampNeg)] dL_law_847 vRL_74 kX10_undo (by decide) rfl k7 rfl rfl (Nat.le_of_ble_eq_true rfl) ⟨Nat.le_of_ble_eq_true rfl, Nat.le_of_ble_eq_true rfl⟩ hr4.1 hr4.2 hv (fun x6 w5 hv => ?_)
  refine e_aload_n (pc := 850) (i := 2) dL_law_850 rfl rfl ?_
  refine e_aload_n (pc := 851) (i := 0) dL_law_851 rfl rfl ?_
  refine e_iload_n (pc := 852) (i := 3) dL_law_852 rfl rfl ?_
  refine e_iconst (pc := 853) (v := 1) dL_law_853 (by decide) ?_
  refine e_iadd (pc := 854) dL_law_854 ?_
  have hi8 := hv.1
  replace hv := hv.2
  refine l_sld (pc := 855) dL_law_855 hi8 ?_
  have k11 := hv.1
  replace hv := hv.2
  refine e_callVi (pc := 856) (ci := 11) (st := [vI x6]) (rc' := rc2) (rs' := rs3) (B' := bX11_undo) [vI (xs (l3 + 1).toNatClampNeg)] dL_law_856 vRL_77 kX11_undo (by decide) rfl k11 rfl rfl (Nat.le_of_ble_eq_true rfl) ⟨Nat.le_of_ble_eq_true rfl, Nat.le_of_ble_eq_true rfl⟩ rfl rfl hv (fun x10 w9 hv => ?_)
  refine e_icmp_eq (pc := 859) (tgt := 1707) dL_law_859 (by decide) (fun h12 => ?_) (fun h12 => ?_)
  · replace hv := hv.1 h12
    exact hv
  · replace hv := hv.2 h12
    refine e_iconst (pc := 862) (v := 0) dL_law_862 (by decide) ?_
    exact hv.elim
set_option maxRecDepth 100000 in
set_option maxHeartbeats 4000000 in
theorem tL_law_768 (X : Cx) (b L : Nat) (xs : Nat → Int32) (rc rs : Nat) (l1 l2 : Nat) (l3 : Int32) (w : Wd)
    (hv : vp_in (l3 + 1) L ∧ vp_in (l3 + 2) L ∧ vp_in (l3 + 3) L ∧ vp_in (l3 + 4) L ∧ ∃ rc5 rs6 : Nat, (rc = rc5 + 2 ∧ rs = rs6 + 9) ∧ wK w l1 = 11 ∧ Ct X bX10_post mX10_post [vR l1, vI (xs (l3 + 1).toNatClampNeg), vI (xs (l3 + 2).toNatClampNeg), vJ ((((xs (l3 + 3).toNatClampNeg).toInt64) <<< ((32 : Int32).toInt64 &&& 63)) ||| (((xs (l3 + 4).toNatClampNeg).toInt64) &&& 4294967295))] w (qI fun x9 w8 => vp_in (l3 + 1) L ∧ vp_in (l3 + 2) L ∧ vp_in (l3 + 3) L ∧ vp_in (l3 + 4) L ∧ wK w8 l2 = 12 ∧ Ct X bX11_post mX11_post [vR l2, vI (xs (l3 + 1).toNatClampNeg), vI (xs (l3 + 2).toNatClampNeg), vJ ((((xs (l3 + 3).toNatClampNeg).toInt64) <<< ((32 : Int32).toInt64 &&& 63)) ||| (((xs (l3 + 4).toNatClampNeg).toInt64) &&& 4294967295))] w8 (qI fun x16 w15 => ((x9 = x16) → jL_law_1707 X b L xs rc5 rs6 l1 l2 l3 w15) ∧ ((¬ x9 = x16) → False)))) :
    jL_law_768 X b L xs rc rs l1 l2 l3 w := by
  refine e_aload_n (pc := 768) (i := 1) dL_law_768 rfl rfl ?_
  refine e_aload_n (pc := 769) (i := 0) dL_law_769 rfl rfl ?_
  refine e_iload_n (pc := 770) (i := 3) dL_law_770 rfl rfl ?_
  refine e_iconst (pc := 771) (v := 1) dL_law_771 (by decide) ?_
  refine e_iadd (pc := 772) dL_law_772 ?_
  have hi1 := hv.1
  replace hv := hv.2
  refine l_sld (pc := 773) dL_law_773 hi1 ?_
  refine e_aload_n (pc := 774) (i := 0) dL_law_774 rfl rfl ?_
  refine e_iload_n (pc := 775) (i := 3) dL_law_775 rfl rfl ?_
  refine e_iconst (pc := 776) (v := 2) dL_law_776 (by decide) ?_
  refine e_iadd (pc := 777) dL_law_777 ?_
  have hi2 := hv.1
  replace hv := hv.2
  refine l_sld (pc := 778) dL_law_778 hi2 ?_
  refine e_aload_n (pc := 779) (i := 0) dL_law_779 rfl rfl ?_
  refine e_iload_n (pc := 780) (i := 3) dL_law_780 rfl rfl ?_
  refine e_iconst (pc := 781) (v := 3) dL_law_781 (by decide) ?_
  refine e_iadd (pc := 782) dL_law_782 ?_
  have hi3 := hv.1
  replace hv := hv.2
  refine l_sld (pc := 783) dL_law_783 hi3 ?_
  refine e_i2l (pc := 784) dL_law_784 ?_
  refine e_bipush (pc := 785) (v := 32) dL_law_785 (by decide) ?_
  refine e_lshl (pc := 787) dL_law_787 ?_
  refine e_aload_n (pc := 788) (i := 0) dL_law_788 rfl rfl ?_
  refine e_iload_n (pc := 789) (i := 3) dL_law_789 rfl rfl ?_
  refine e_iconst (pc := 790) (v := 4) dL_law_790 (by decide) ?_
  refine e_iadd (pc := 791) dL_law_791 ?_
  have hi4 := hv.1
  replace hv := hv.2
  refine l_sld (pc := 792) dL_law_792 hi4 ?_
  refine e_i2l (pc := 793) dL_law_793 ?_
  refine e_ldc2 (pc := 794) (v := 4294967295) dL_law_794 (tb_a6 178 (by decide +kernel) rfl) ?_
  refine e_land (pc := 797) dL_law_797 ?_
  refine e_lor (pc := 798) dL_law_798 ?_
  obtain ⟨rc5, rs6, hr7, hv⟩ := hv
  have k10 := hv.1
  replace hv := hv.2
  refine e_callVi (pc := 799) (ci := 10) (st := []) (rc' := rc5) (rs' := rs6) (B' := bX10_post) [vI (xs (l3 + 1).toNatClampNeg), vI (xs (l3 + 2).toNatClampNeg), vJ ((((xs (l3 + 3).toNatClampNeg).toInt64) <<< ((32 : Int32).toInt64 &&& 63)) ||| (((xs (l3 + 4).toNatClampNeg).toInt64) &&& 4294967295))] dL_law_799 vRL_69 kX10_post (by decide) rfl k10 rfl rfl (Nat.le_of_ble_eq_true rfl) ⟨Nat.le_of_ble_eq_true rfl, Nat.le_of_ble_eq_true rfl⟩ hr7.1 hr7.2 hv (fun x9 w8 hv => ?_)
  refine e_aload_n (pc := 802) (i := 2) dL_law_802 rfl rfl ?_
  refine e_aload_n (pc := 803) (i := 0) dL_law_803 rfl rfl ?_
  refine e_iload_n (pc := 804) (i := 3) dL_law_804 rfl rfl ?_
  refine e_iconst (pc := 805) (v := 1) dL_law_805 (by decide) ?_
  refine e_iadd (pc := 806) dL_law_806 ?_
  have hi11 := hv.1
  replace hv := hv.2
  refine l_sld (pc := 807) dL_law_807 hi11 ?_
  refine e_aload_n (pc := 808) (i := 0) dL_law_808 rfl rfl ?_
  refine e_iload_n (pc := 809) (i := 3) dL_law_809 rfl rfl ?_
  refine e_iconst (pc := 810) (v := 2) dL_law_810 (by decide) ?_
  refine e_iadd (pc := 811) dL_law_811 ?_
  have hi12 := hv.1
  replace hv := hv.2
  refine l_sld (pc := 812) dL_law_812 hi12 ?_
  refine e_aload_n (pc := 813) (i := 0) dL_law_813 rfl rfl ?_
  refine e_iload_n (pc := 814) (i := 3) dL_law_814 rfl rfl ?_
  refine e_iconst (pc := 815) (v := 3) dL_law_815 (by decide) ?_
  refine e_iadd (pc := 816) dL_law_816 ?_
  have hi13 := hv.1
  replace hv := hv.2
  refine l_sld (pc := 817) dL_law_817 hi13 ?_
  refine e_i2l (pc := 818) dL_law_818 ?_
  refine e_bipush (pc := 819) (v := 32) dL_law_819 (by decide) ?_
  refine e_lshl (pc := 821) dL_law_821 ?_
  refine e_aload_n (pc := 822) (i := 0) dL_law_822 rfl rfl ?_
  refine e_iload_n (pc := 823) (i := 3) dL_law_823 rfl rfl ?_
  refine e_iconst (pc := 824) (v := 4) dL_law_824 (by decide) ?_
  refine e_iadd (pc := 825) dL_law_825 ?_
  have hi14 := hv.1
  replace hv := hv.2
  refine l_sld (pc := 826) dL_law_826 hi14 ?_
  refine e_i2l (pc := 827) dL_law_827 ?_
  refine e_ldc2 (pc := 828) (v := 4294967295) dL_law_828 (tb_a6 178 (by decide +kernel) rfl) ?_
  refine e_land (pc := 831) dL_law_831 ?_
  refine e_lor (pc := 832) dL_law_832 ?_
  have k17 := hv.1
  replace hv := hv.2
  refine e_callVi (pc := 833) (ci := 11) (st := [vI x9]) (rc' := rc5) (rs' := rs6) (B' := bX11_post) [vI (xs (l3 + 1).toNatClampNeg), vI (xs (l3 + 2).toNatClampNeg), vJ ((((xs (l3 + 3).toNatClampNeg).toInt64) <<< ((32 : Int32).toInt64 &&& 63)) ||| (((xs (l3 + 4).toNatClampNeg).toInt64) &&& 4294967295))] dL_law_833 vRL_73 kX11_post (by decide) rfl k17 rfl rfl (Nat.le_of_ble_eq_true rfl) ⟨Nat.le_of_ble_eq_true rfl, Nat.le_of_ble_eq_true rfl⟩ rfl rfl hv (fun x16 w15 hv => ?_)
  refine e_icmp_eq (pc := 836) (tgt := 1707) dL_law_836 (by decide) (fun h18 => ?_) (fun h18 => ?_)
  · replace hv := hv.1 h18
    exact hv
  · replace hv := hv.2 h18
    refine e_iconst (pc := 839) (v := 0) dL_law_839 (by decide) ?_
    exact hv.elim
set_option maxRecDepth 100000 in
set_option maxHeartbeats 4000000 in
theorem tL_law_695 (X : Cx) (b L : Nat) (xs : Nat → Int32) (rc rs : Nat) (l1 l2 : Nat) (l3 : Int32) (w : Wd)
    (hv : vp_in (l3 + 1) L ∧ vp_in (l3 + 2) L ∧ vp_in (l3 + 3) L ∧ vp_in (l3 + 4) L ∧ ∃ rc5 rs6 : Nat, (rc = rc5 + 2 ∧ rs = rs6 + 26) ∧ wK w l1 = 11 ∧ Ct X bX10_hand mX10_hand [vR l1, vI (xs (l3 + 1).toNatClampNeg), vJ ((((xs (l3 + 2).toNatClampNeg).toInt64) <<< ((32 : Int32).toInt64 &&& 63)) ||| (((xs (l3 + 3).toNatClampNeg).toInt64) &&& 4294967295)), vI (xs (l3 + 4).toNatClampNeg)] w (qI fun x9 w8 => vp_in (l3 + 1) L ∧ vp_in (l3 + 2) L ∧ vp_in (l3 + 3) L ∧ vp_in (l3 + 4) L ∧ wK w8 l2 = 12 ∧ Ct X bX11_hand mX11_hand [vR l2, vI (xs (l3 + 1).toNatClampNeg), vJ ((((xs (l3 + 2).toNatClampNeg).toInt64) <<< ((32 : Int32).toInt64 &&& 63)) ||| (((xs (l3 + 3).toNatClampNeg).toInt64) &&& 4294967295)), vI (xs (l3 + 4).toNatClampNeg)] w8 (qI fun x16 w15 => ((x9 = x16) → jL_law_1707 X b L xs rc5 rs6 l1 l2 l3 w15) ∧ ((¬ x9 = x16) → False)))) :
    jL_law_695 X b L xs rc rs l1 l2 l3 w := by
  refine e_aload_n (pc := 695) (i := 1) dL_law_695 rfl rfl ?_
  refine e_aload_n (pc := 696) (i := 0) dL_law_696 rfl rfl ?_
  refine e_iload_n (pc := 697) (i := 3) dL_law_697 rfl rfl ?_
  refine e_iconst (pc := 698) (v := 1) dL_law_698 (by decide) ?_
  refine e_iadd (pc := 699) dL_law_699 ?_
  have hi1 := hv.1
  replace hv := hv.2
  refine l_sld (pc := 700) dL_law_700 hi1 ?_
  refine e_aload_n (pc := 701) (i := 0) dL_law_701 rfl rfl ?_
  refine e_iload_n (pc := 702) (i := 3) dL_law_702 rfl rfl ?_
  refine e_iconst (pc := 703) (v := 2) dL_law_703 (by decide) ?_
  refine e_iadd (pc := 704) dL_law_704 ?_
  have hi2 := hv.1
  replace hv := hv.2
  refine l_sld (pc := 705) dL_law_705 hi2 ?_
  refine e_i2l (pc := 706) dL_law_706 ?_
  refine e_bipush (pc := 707) (v := 32) dL_law_707 (by decide) ?_
  refine e_lshl (pc := 709) dL_law_709 ?_
  refine e_aload_n (pc := 710) (i := 0) dL_law_710 rfl rfl ?_
  refine e_iload_n (pc := 711) (i := 3) dL_law_711 rfl rfl ?_
  refine e_iconst (pc := 712) (v := 3) dL_law_712 (by decide) ?_
  refine e_iadd (pc := 713) dL_law_713 ?_
  have hi3 := hv.1
  replace hv := hv.2
  refine l_sld (pc := 714) dL_law_714 hi3 ?_
  refine e_i2l (pc := 715) dL_law_715 ?_
  refine e_ldc2 (pc := 716) (v := 4294967295) dL_law_716 (tb_a6 178 (by decide +kernel) rfl) ?_
  refine e_land (pc := 719) dL_law_719 ?_
  refine e_lor (pc := 720) dL_law_720 ?_
  refine e_aload_n (pc := 721) (i := 0) dL_law_721 rfl rfl ?_
  refine e_iload_n (pc := 722) (i := 3) dL_law_722 rfl rfl ?_
  refine e_iconst (pc := 723) (v := 4) dL_law_723 (by decide) ?_
  refine e_iadd (pc := 724) dL_law_724 ?_
  have hi4 := hv.1
  replace hv := hv.2
  refine l_sld (pc := 725) dL_law_725 hi4 ?_
  obtain ⟨rc5, rs6, hr7, hv⟩ := hv
  have k10 := hv.1
  replace hv := hv.2
  refine e_callVi (pc := 726) (ci := 10) (st := []) (rc' := rc5) (rs' := rs6) (B' := bX10_hand) [vI (xs (l3 + 1).toNatClampNeg), vJ ((((xs (l3 + 2).toNatClampNeg).toInt64) <<< ((32 : Int32).toInt64 &&& 63)) ||| (((xs (l3 + 3).toNatClampNeg).toInt64) &&& 4294967295)), vI (xs (l3 + 4).toNatClampNeg)] dL_law_726 vRL_64 kX10_hand (by decide) rfl k10 rfl rfl (Nat.le_of_ble_eq_true rfl) ⟨Nat.le_of_ble_eq_true rfl, Nat.le_of_ble_eq_true rfl⟩ hr7.1 hr7.2 hv (fun x9 w8 hv => ?_)
  refine e_aload_n (pc := 729) (i := 2) dL_law_729 rfl rfl ?_
  refine e_aload_n (pc := 730) (i := 0) dL_law_730 rfl rfl ?_
  refine e_iload_n (pc := 731) (i := 3) dL_law_731 rfl rfl ?_
  refine e_iconst (pc := 732) (v := 1) dL_law_732 (by decide) ?_
  refine e_iadd (pc := 733) dL_law_733 ?_
  have hi11 := hv.1
  replace hv := hv.2
  refine l_sld (pc := 734) dL_law_734 hi11 ?_
  refine e_aload_n (pc := 735) (i := 0) dL_law_735 rfl rfl ?_
  refine e_iload_n (pc := 736) (i := 3) dL_law_736 rfl rfl ?_
  refine e_iconst (pc := 737) (v := 2) dL_law_737 (by decide) ?_
  refine e_iadd (pc := 738) dL_law_738 ?_
  have hi12 := hv.1
  replace hv := hv.2
  refine l_sld (pc := 739) dL_law_739 hi12 ?_
  refine e_i2l (pc := 740) dL_law_740 ?_
  refine e_bipush (pc := 741) (v := 32) dL_law_741 (by decide) ?_
  refine e_lshl (pc := 743) dL_law_743 ?_
  refine e_aload_n (pc := 744) (i := 0) dL_law_744 rfl rfl ?_
  refine e_iload_n (pc := 745) (i := 3) dL_law_745 rfl rfl ?_
  refine e_iconst (pc := 746) (v := 3) dL_law_746 (by decide) ?_
  refine e_iadd (pc := 747) dL_law_747 ?_
  have hi13 := hv.1
  replace hv := hv.2
  refine l_sld (pc := 748) dL_law_748 hi13 ?_
  refine e_i2l (pc := 749) dL_law_749 ?_
  refine e_ldc2 (pc := 750) (v := 4294967295) dL_law_750 (tb_a6 178 (by decide +kernel) rfl) ?_
  refine e_land (pc := 753) dL_law_753 ?_
  refine e_lor (pc := 754) dL_law_754 ?_
  refine e_aload_n (pc := 755) (i := 0) dL_law_755 rfl rfl ?_
  refine e_iload_n (pc := 756) (i := 3) dL_law_756 rfl rfl ?_
  refine e_iconst (pc := 757) (v := 4) dL_law_757 (by decide) ?_
  refine e_iadd (pc := 758) dL_law_758 ?_
  have hi14 := hv.1
  replace hv := hv.2
  refine l_sld (pc := 759) dL_law_759 hi14 ?_
  have k17 := hv.1
  replace hv := hv.2
  refine e_callVi (pc := 760) (ci := 11) (st := [vI x9]) (rc' := rc5) (rs' := rs6) (B' := bX11_hand) [vI (xs (l3 + 1).toNatClampNeg), vJ ((((xs (l3 + 2).toNatClampNeg).toInt64) <<< ((32 : Int32).toInt64 &&& 63)) ||| (((xs (l3 + 3).toNatClampNeg).toInt64) &&& 4294967295)), vI (xs (l3 + 4).toNatClampNeg)] dL_law_760 vRL_68 kX11_hand (by decide) rfl k17 rfl rfl (Nat.le_of_ble_eq_true rfl) ⟨Nat.le_of_ble_eq_true rfl, Nat.le_of_ble_eq_true rfl⟩ rfl rfl hv (fun x16 w15 hv => ?_)
  refine e_icmp_eq (pc := 763) (tgt := 1707) dL_law_763 (by decide) (fun h18 => ?_) (fun h18 => ?_)
  · replace hv := hv.1 h18
    exact hv
  · replace hv := hv.2 h18
    refine e_iconst (pc := 766) (v := 0) dL_law_766 (by decide) ?_
    exact hv.elim
set_option maxRecDepth 100000 in
set_option maxHeartbeats 4000000 in
theorem tL_law_632 (X : Cx) (b L : Nat) (xs : Nat → Int32) (rc rs : Nat) (l1 l2 : Nat) (l3 : Int32) (w : Wd)
    (hv : vp_in (l3 + 1) L ∧ vp_in (l3 + 2) L ∧ vp_in (l3 + 3) L ∧ ∃ rc4 rs5 : Nat, (rc = rc4 + 2 ∧ rs = rs5 + 26) ∧ wK w l1 = 11 ∧ Ct X bX10_split mX10_split [vR l1, vI (xs (l3 + 1).toNatClampNeg), vJ ((((xs (l3 + 2).toNatClampNeg).toInt64) <<< ((32 : Int32).toInt64 &&& 63)) ||| (((xs (l3 + 3).toNatClampNeg).toInt64) &&& 4294967295))] w (qI fun x8 w7 => vp_in (l3 + 1) L ∧ vp_in (l3 + 2) L ∧ vp_in (l3 + 3) L ∧ wK w7 l2 = 12 ∧ Ct X bX11_split mX11_split [vR l2, vI (xs (l3 + 1).toNatClampNeg), vJ ((((xs (l3 + 2).toNatClampNeg).toInt64) <<< ((32 : Int32).toInt64 &&& 63)) ||| (((xs (l3 + 3).toNatClampNeg).toInt64) &&& 4294967295))] w7 (qI fun x14 w13 => ((x8 = x14) → jL_law_1707 X b L xs rc4 rs5 l1 l2 l3 w13) ∧ ((¬ x8 = x14) → False)))) :
    jL_law_632 X b L xs rc rs l1 l2 l3 w := by
  refine e_aload_n (pc := 632) (i := 1) dL_law_632 rfl rfl ?_
  refine e_aload_n (pc := 633) (i := 0) dL_law_633 rfl rfl ?_
  refine e_iload_n (pc := 634) (i := 3) dL_law_634 rfl rfl ?_
  refine e_iconst (pc := 635) (v := 1) dL_law_635 (by decide) ?_
  refine e_iadd (pc := 636) dL_law_636 ?_
  have hi1 := hv.1
  replace hv := hv.2
  refine l_sld (pc := 637) dL_law_637 hi1 ?_
  refine e_aload_n (pc := 638) (i := 0) dL_law_638 rfl rfl ?_
  refine e_iload_n (pc := 639) (i := 3) dL_law_639 rfl rfl ?_
  refine e_iconst (pc := 640) (v := 2) dL_law_640 (by decide) ?_
  refine e_iadd (pc := 641) dL_law_641 ?_
  have hi2 := hv.1
  replace hv := hv.2
  refine l_sld (pc := 642) dL_law_642 hi2 ?_
  refine e_i2l (pc := 643) dL_law_643 ?_
  refine e_bipush (pc := 644) (v := 32) dL_law_644 (by decide) ?_
  refine e_lshl (pc := 646) dL_law_646 ?_
  refine e_aload_n (pc := 647) (i := 0) dL_law_647 rfl rfl ?_
  refine e_iload_n (pc := 648) (i := 3) dL_law_648 rfl rfl ?_
  refine e_iconst (pc := 649) (v := 3) dL_law_649 (by decide) ?_
  refine e_iadd (pc := 650) dL_law_650 ?_
  have hi3 := hv.1
  replace hv := hv.2
  refine l_sld (pc := 651) dL_law_651 hi3 ?_
  refine e_i2l (pc := 652) dL_law_652 ?_
  refine e_ldc2 (pc := 653) (v := 4294967295) dL_law_653 (tb_a6 178 (by decide +kernel) rfl) ?_
  refine e_land (pc := 656) dL_law_656 ?_
  refine e_lor (pc := 657) dL_law_657 ?_
  obtain ⟨rc4, rs5, hr6, hv⟩ := hv
  have k9 := hv.1
  replace hv := hv.2
  refine e_callVi (pc := 658) (ci := 10) (st := []) (rc' := rc4) (rs' := rs5) (B' := bX10_split) [vI (xs (l3 + 1).toNatClampNeg), vJ ((((xs (l3 + 2).toNatClampNeg).toInt64) <<< ((32 : Int32).toInt64 &&& 63)) ||| (((xs (l3 + 3).toNatClampNeg).toInt64) &&& 4294967295))] dL_law_658 vRL_59 kX10_split (by decide) rfl k9 rfl rfl (Nat.le_of_ble_eq_true rfl) ⟨Nat.le_of_ble_eq_true rfl, Nat.le_of_ble_eq_true rfl⟩ hr6.1 hr6.2 hv (fun x8 w7 hv => ?_)
  refine e_aload_n (pc := 661) (i := 2) dL_law_661 rfl rfl ?_
  refine e_aload_n (pc := 662) (i := 0) dL_law_662 rfl rfl ?_
  refine e_iload_n (pc := 663) (i := 3) dL_law_663 rfl rfl ?_
  refine e_iconst (pc := 664) (v := 1) dL_law_664 (by decide) ?_
  refine e_iadd (pc := 665) dL_law_665 ?_
  have hi10 := hv.1
  replace hv := hv.2
  refine l_sld (pc := 666) dL_law_666 hi10 ?_
  refine e_aload_n (pc := 667) (i := 0) dL_law_667 rfl rfl ?_
  refine e_iload_n (pc := 668) (i := 3) dL_law_668 rfl rfl ?_
  refine e_iconst (pc := 669) (v := 2) dL_law_669 (by decide) ?_
  refine e_iadd (pc := 670) dL_law_670 ?_
  have hi11 := hv.1
  replace hv := hv.2
  refine l_sld (pc := 671) dL_law_671 hi11 ?_
  refine e_i2l (pc := 672) dL_law_672 ?_
  refine e_bipush (pc := 673) (v := 32) dL_law_673 (by decide) ?_
  refine e_lshl (pc := 675) dL_law_675 ?_
  refine e_aload_n (pc := 676) (i := 0) dL_law_676 rfl rfl ?_
  refine e_iload_n (pc := 677) (i := 3) dL_law_677 rfl rfl ?_
  refine e_iconst (pc := 678) (v := 3) dL_law_678 (by decide) ?_
  refine e_iadd (pc := 679) dL_law_679 ?_
  have hi12 := hv.1
  replace hv := hv.2
  refine l_sld (pc := 680) dL_law_680 hi12 ?_
  refine e_i2l (pc := 681) dL_law_681 ?_
  refine e_ldc2 (pc := 682) (v := 4294967295) dL_law_682 (tb_a6 178 (by decide +kernel) rfl) ?_
  refine e_land (pc := 685) dL_law_685 ?_
  refine e_lor (pc := 686) dL_law_686 ?_
  have k15 := hv.1
  replace hv := hv.2
  refine e_callVi (pc := 687) (ci := 11) (st := [vI x8]) (rc' := rc4) (rs' := rs5) (B' := bX11_split) [vI (xs (l3 + 1).toNatClampNeg), vJ ((((xs (l3 + 2).toNatClampNeg).toInt64) <<< ((32 : Int32).toInt64 &&& 63)) ||| (((xs (l3 + 3).toNatClampNeg).toInt64) &&& 4294967295))] dL_law_687 vRL_63 kX11_split (by decide) rfl k15 rfl rfl (Nat.le_of_ble_eq_true rfl) ⟨Nat.le_of_ble_eq_true rfl, Nat.le_of_ble_eq_true rfl⟩ rfl rfl hv (fun x14 w13 hv => ?_)
  refine e_icmp_eq (pc := 690) (tgt := 1707) dL_law_690 (by decide) (fun h16 => ?_) (fun h16 => ?_)
  · replace hv := hv.1 h16
    exact hv
  · replace hv := hv.2 h16
    refine e_iconst (pc := 693) (v := 0) dL_law_693 (by decide) ?_
    exact hv.elim
set_option maxRecDepth 100000 in
set_option maxHeartbeats 4000000 in
theorem tL_law_583 (X : Cx) (b L : Nat) (xs : Nat → Int32) (rc rs : Nat) (l1 l2 : Nat) (l3 : Int32) (w : Wd)
    (hv : vp_in (l3 + 1) L ∧ vp_in (l3 + 2) L ∧ (((xs (l3 + 2).toNatClampNeg) = 0) → wK w l1 = 11 ∧ Ct X bX10_paper mX10_paper [vR l1, vI (xs (l3 + 1).toNatClampNeg), vI 0] w (qI fun x5 w4 => vp_in (l3 + 1) L ∧ vp_in (l3 + 2) L ∧ (((xs (l3 + 2).toNatClampNeg) = 0) → wK w4 l2 = 12 ∧ Ct X bX11_paper mX11_paper [vR l2, vI (xs (l3 + 1).toNatClampNeg), vI 0] w4 (qI fun x11 w10 => ((x5 = x11) → jL_law_1707 X b L xs rc rs l1 l2 l3 w10) ∧ ((¬ x5 = x11) → False))) ∧ ((¬ (xs (l3 + 2).toNatClampNeg) = 0) → wK w4 l2 = 12 ∧ Ct X bX11_paper mX11_paper [vR l2, vI (xs (l3 + 1).toNatClampNeg), vI 1] w4 (qI fun x15 w14 => ((x5 = x15) → jL_law_1707 X b L xs rc rs l1 l2 l3 w14) ∧ ((¬ x5 = x15) → False))))) ∧ ((¬ (xs (l3 + 2).toNatClampNeg) = 0) → wK w l1 = 11 ∧ Ct X bX10_paper mX10_paper [vR l1, vI (xs (l3 + 1).toNatClampNeg), vI 1] w (qI fun x19 w18 => vp_in (l3 + 1) L ∧ vp_in (l3 + 2) L ∧ (((xs (l3 + 2).toNatClampNeg) = 0) → wK w18 l2 = 12 ∧ Ct X bX11_paper mX11_paper [vR l2, vI (xs (l3 + 1).toNatClampNeg), vI 0] w18 (qI fun x25 w24 => ((x19 = x25) → jL_law_1707 X b L xs rc rs l1 l2 l3 w24) ∧ ((¬ x19 = x25) → False))) ∧ ((¬ (xs (l3 + 2).toNatClampNeg) = 0) → wK w18 l2 = 12 ∧ Ct X bX11_paper mX11_paper [vR l2, vI (xs (l3 + 1).toNatClampNeg), vI 1] w18 (qI fun x29 w28 => ((x19 = x29) → jL_law_1707 X b L xs rc rs l1 l2 l3 w28) ∧ ((¬ x19 = x29) → False)))))) :
    jL_law_583 X b L xs rc rs l1 l2 l3 w := by
  refine e_aload_n (pc := 583) (i := 1) dL_law_583 rfl rfl ?_
  refine e_aload_n (pc := 584) (i := 0) dL_law_584 rfl rfl ?_
  refine e_iload_n (pc := 585) (i := 3) dL_law_585 rfl rfl ?_
  refine e_iconst (pc := 586) (v := 1) dL_law_586 (by decide) ?_
  refine e_iadd (pc := 587) dL_law_587 ?_
  have hi1 := hv.1
  replace hv := hv.2
  refine l_sld (pc := 588) dL_law_588 hi1 ?_
  refine e_aload_n (pc := 589) (i := 0) dL_law_589 rfl rfl ?_
  refine e_iload_n (pc := 590) (i := 3) dL_law_590 rfl rfl ?_
  refine e_iconst (pc := 591) (v := 2) dL_law_591 (by decide) ?_
  refine e_iadd (pc := 592) dL_law_592 ?_
  have hi2 := hv.1
  replace hv := hv.2
  refine l_sld (pc := 593) dL_law_593 hi2 ?_
  refine e_if_eq (pc := 594) (tgt := 601) dL_law_594 (by decide) (fun h3 => ?_) (fun h3 => ?_)
  · replace hv := hv.1 h3
    refine e_iconst (pc := 601) (v := 0) dL_law_601 (by decide) ?_
    have k6 := hv.1
    replace hv := hv.2
    refine e_callVi (pc := 602) (ci := 10) (st := []) (rc' := rc) (rs' := rs) (B' := bX10_paper) [vI (xs (l3 + 1).toNatClampNeg), vI 0] dL_law_602 vRL_54 kX10_paper (by decide) rfl k6 rfl rfl (Nat.le_of_ble_eq_true rfl) ⟨Nat.le_of_ble_eq_true rfl, Nat.le_of_ble_eq_true rfl⟩ rfl rfl hv (fun x5 w4 hv => ?_)
    refine e_aload_n (pc := 605) (i := 2) dL_law_605 rfl rfl ?_
    refine e_aload_n (pc := 606) (i := 0) dL_law_606 rfl rfl ?_
    refine e_iload_n (pc := 607) (i := 3) dL_law_607 rfl rfl ?_
    refine e_iconst (pc := 608) (v := 1) dL_law_608 (by decide) ?_
    refine e_iadd (pc := 609) dL_law_609 ?_
    have hi7 := hv.1
    replace hv := hv.2
    refine l_sld (pc := 610) dL_law_610 hi7 ?_
    refine e_aload_n (pc := 611) (i := 0) dL_law_611 rfl rfl ?_
    refine e_iload_n (pc := 612) (i := 3) dL_law_612 rfl rfl ?_
    refine e_iconst (pc := 613) (v := 2) dL_law_613 (by decide) ?_
    refine e_iadd (pc := 614) dL_law_614 ?_
    have hi8 := hv.1
    replace hv := hv.2
    refine l_sld (pc := 615) dL_law_615 hi8 ?_
    refine e_if_eq (pc := 616) (tgt := 623) dL_law_616 (by decide) (fun h9 => ?_) (fun h9 => ?_)
    · replace hv := hv.1 h9
      refine e_iconst (pc := 623) (v := 0) dL_law_623 (by decide) ?_
      have k12 := hv.1
      replace hv := hv.2
      refine e_callVi (pc := 624) (ci := 11) (st := [vI x5]) (rc' := rc) (rs' := rs) (B' := bX11_paper) [vI (xs (l3 + 1).toNatClampNeg), vI 0] dL_law_624 vRL_58 kX11_paper (by decide) rfl k12 rfl rfl (Nat.le_of_ble_eq_true rfl) ⟨Nat.le_of_ble_eq_true rfl, Nat.le_of_ble_eq_true rfl⟩ rfl rfl hv (fun x11 w10 hv => ?_)
      refine e_icmp_eq (pc := 627) (tgt := 1707) dL_law_627 (by decide) (fun h13 => ?_) (fun h13 => ?_)
      · replace hv := hv.1 h13
        exact hv
      · replace hv := hv.2 h13
        refine e_iconst (pc := 630) (v := 0) dL_law_630 (by decide) ?_
        exact hv.elim
    · replace hv := hv.2 h9
      refine e_iconst (pc := 619) (v := 1) dL_law_619 (by decide) ?_
      refine e_goto (pc := 620) (tgt := 624) dL_law_620 (by decide) ?_
      have k16 := hv.1
      replace hv := hv.2
      refine e_callVi (pc := 624) (ci := 11) (st := [vI x5]) (rc' := rc) (rs' := rs) (B' := bX11_paper) [vI (xs (l3 + 1).toNatClampNeg), vI 1] dL_law_624 vRL_58 kX11_paper (by decide) rfl k16 rfl rfl (Nat.le_of_ble_eq_true rfl) ⟨Nat.le_of_ble_eq_true rfl, Nat.le_of_ble_eq_true rfl⟩ rfl rfl hv (fun x15 w14 hv => ?_)
      refine e_icmp_eq (pc := 627) (tgt := 1707) dL_law_627 (by decide) (fun h17 => ?_) (fun h17 => ?_)
      · replace hv := hv.1 h17
        exact hv
      · replace hv := hv.2 h17
        refine e_iconst (pc := 630) (v := 0) dL_law_630 (by decide) ?_
        exact hv.elim
  · replace hv := hv.2 h3
    refine e_iconst (pc := 597) (v := 1) dL_law_597 (by decide) ?_
    refine e_goto (pc := 598) (tgt := 602) dL_law_598 (by decide) ?_
    have k20 := hv.1
    replace hv := hv.2
    refine e_callVi (pc := 602) (ci := 10) (st := []) (rc' := rc) (rs' := rs) (B' := bX10_paper) [vI (xs (l3 + 1).toNatClampNeg), vI 1] dL_law_602 vRL_54 kX10_paper (by decide) rfl k20 rfl rfl (Nat.le_of_ble_eq_true rfl) ⟨Nat.le_of_ble_eq_true rfl, Nat.le_of_ble_eq_true rfl⟩ rfl rfl hv (fun x19 w18 hv => ?_)
    refine e_aload_n (pc := 605) (i := 2) dL_law_605 rfl rfl ?_
    refine e_aload_n (pc := 606) (i := 0) dL_law_606 rfl rfl ?_
    refine e_iload_n (pc := 607) (i := 3) dL_law_607 rfl rfl ?_
    refine e_iconst (pc := 608) (v := 1) dL_law_608 (by decide) ?_
    refine e_iadd (pc := 609) dL_law_609 ?_
    have hi21 := hv.1
    replace hv := hv.2
    refine l_sld (pc := 610) dL_law_610 hi21 ?_
    refine e_aload_n (pc := 611) (i := 0) dL_law_611 rfl rfl ?_
    refine e_iload_n (pc := 612) (i := 3) dL_law_612 rfl rfl ?_
    refine e_iconst (pc := 613) (v := 2) dL_law_613 (by decide) ?_
    refine e_iadd (pc := 614) dL_law_614 ?_
    have hi22 := hv.1
    replace hv := hv.2
    refine l_sld (pc := 615) dL_law_615 hi22 ?_
    refine e_if_eq (pc := 616) (tgt := 623) dL_law_616 (by decide) (fun h23 => ?_) (fun h23 => ?_)
    · replace hv := hv.1 h23
      refine e_iconst (pc := 623) (v := 0) dL_law_623 (by decide) ?_
      have k26 := hv.1
      replace hv := hv.2
      refine e_callVi (pc := 624) (ci := 11) (st := [vI x19]) (rc' := rc) (rs' := rs) (B' := bX11_paper) [vI (xs (l3 + 1).toNatClampNeg), vI 0] dL_law_624 vRL_58 kX11_paper (by decide) rfl k26 rfl rfl (Nat.le_of_ble_eq_true rfl) ⟨Nat.le_of_ble_eq_true rfl, Nat.le_of_ble_eq_true rfl⟩ rfl rfl hv (fun x25 w24 hv => ?_)
      refine e_icmp_eq (pc := 627) (tgt := 1707) dL_law_627 (by decide) (fun h27 => ?_) (fun h27 => ?_)
      · replace hv := hv.1 h27
        exact hv
      · replace hv := hv.2 h27
        refine e_iconst (pc := 630) (v := 0) dL_law_630 (by decide) ?_
        exact hv.elim
    · replace hv := hv.2 h23
      refine e_iconst (pc := 619) (v := 1) dL_law_619 (by decide) ?_
      refine e_goto (pc := 620) (tgt := 624) dL_law_620 (by decide) ?_
      have k30 := hv.1
      replace hv := hv.2
      refine e_callVi (pc := 624) (ci := 11) (st := [vI x19]) (rc' := rc) (rs' := rs) (B' := bX11_paper) [vI (xs (l3 + 1).toNatClampNeg), vI 1] dL_law_624 vRL_58 kX11_paper (by decide) rfl k30 rfl rfl (Nat.le_of_ble_eq_true rfl) ⟨Nat.le_of_ble_eq_true rfl, Nat.le_of_ble_eq_true rfl⟩ rfl rfl hv (fun x29 w28 hv => ?_)
      refine e_icmp_eq (pc := 627) (tgt := 1707) dL_law_627 (by decide) (fun h31 => ?_) (fun h31 => ?_)
      · replace hv := hv.1 h31
        exact hv
      · replace hv := hv.2 h31
        refine e_iconst (pc := 630) (v := 0) dL_law_630 (by decide) ?_
        exact hv.elim
set_option maxRecDepth 100000 in
set_option maxHeartbeats 4000000 in
theorem tL_law_519 (X : Cx) (b L : Nat) (xs : Nat → Int32) (rc rs : Nat) (l1 l2 : Nat) (l3 : Int32) (w : Wd)
    (hv : vp_in (l3 + 1) L ∧ vp_in (l3 + 2) L ∧ vp_in (l3 + 3) L ∧ wK w l1 = 11 ∧ Ct X bX10_pay mX10_pay [vR l1, vI (xs (l3 + 1).toNatClampNeg), vJ ((((xs (l3 + 2).toNatClampNeg).toInt64) <<< ((32 : Int32).toInt64 &&& 63)) ||| (((xs (l3 + 3).toNatClampNeg).toInt64) &&& 4294967295))] w (qJ fun x5 w4 => vp_in (l3 + 1) L ∧ vp_in (l3 + 2) L ∧ vp_in (l3 + 3) L ∧ wK w4 l2 = 12 ∧ Ct X bX11_pay mX11_pay [vR l2, vI (xs (l3 + 1).toNatClampNeg), vJ ((((xs (l3 + 2).toNatClampNeg).toInt64) <<< ((32 : Int32).toInt64 &&& 63)) ||| (((xs (l3 + 3).toNatClampNeg).toInt64) &&& 4294967295))] w4 (qJ fun x11 w10 => (((lg_cmp x5 x11) = 0) → jL_law_1707 X b L xs rc rs l1 l2 l3 w10) ∧ ((¬ (lg_cmp x5 x11) = 0) → False)))) :
    jL_law_519 X b L xs rc rs l1 l2 l3 w := by
  refine e_aload_n (pc := 519) (i := 1) dL_law_519 rfl rfl ?_
  refine e_aload_n (pc := 520) (i := 0) dL_law_520 rfl rfl ?_
  refine e_iload_n (pc := 521) (i := 3) dL_law_521 rfl rfl ?_
  refine e_iconst (pc := 522) (v := 1) dL_law_522 (by decide) ?_
  refine e_iadd (pc := 523) dL_law_523 ?_
  have hi1 := hv.1
  replace hv := hv.2
  refine l_sld (pc := 524) dL_law_524 hi1 ?_
  refine e_aload_n (pc := 525) (i := 0) dL_law_525 rfl rfl ?_
  refine e_iload_n (pc := 526) (i := 3) dL_law_526 rfl rfl ?_
  refine e_iconst (pc := 527) (v := 2) dL_law_527 (by decide) ?_
  refine e_iadd (pc := 528) dL_law_528 ?_
  have hi2 := hv.1
  replace hv := hv.2
  refine l_sld (pc := 529) dL_law_529 hi2 ?_
  refine e_i2l (pc := 530) dL_law_530 ?_
  refine e_bipush (pc := 531) (v := 32) dL_law_531 (by decide) ?_
  refine e_lshl (pc := 533) dL_law_533 ?_
  refine e_aload_n (pc := 534) (i := 0) dL_law_534 rfl rfl ?_
  refine e_iload_n (pc := 535) (i := 3) dL_law_535 rfl rfl ?_
  refine e_iconst (pc := 536) (v := 3) dL_law_536 (by decide) ?_
  refine e_iadd (pc := 537) dL_law_537 ?_
  have hi3 := hv.1
  replace hv := hv.2
  refine l_sld (pc := 538) dL_law_538 hi3 ?_
  refine e_i2l (pc := 539) dL_law_539 ?_
  refine e_ldc2 (pc := 540) (v := 4294967295) dL_law_540 (tb_a6 178 (by decide +kernel) rfl) ?_
  refine e_land (pc := 543) dL_law_543 ?_
  refine e_lor (pc := 544) dL_law_544 ?_
  have k6 := hv.1
  replace hv := hv.2
  refine e_callVj (pc := 545) (ci := 10) (st := []) (rc' := rc) (rs' := rs) (B' := bX10_pay) [vI (xs (l3 + 1).toNatClampNeg), vJ ((((xs (l3 + 2).toNatClampNeg).toInt64) <<< ((32 : Int32).toInt64 &&& 63)) ||| (((xs (l3 + 3).toNatClampNeg).toInt64) &&& 4294967295))] dL_law_545 vRL_49 kX10_pay (by decide) rfl k6 rfl rfl (Nat.le_of_ble_eq_true rfl) ⟨Nat.le_of_ble_eq_true rfl, Nat.le_of_ble_eq_true rfl⟩ rfl rfl hv (fun x5 w4 hv => ?_)
  refine e_aload_n (pc := 548) (i := 2) dL_law_548 rfl rfl ?_
  refine e_aload_n (pc := 549) (i := 0) dL_law_549 rfl rfl ?_
  refine e_iload_n (pc := 550) (i := 3) dL_law_550 rfl rfl ?_
  refine e_iconst (pc := 551) (v := 1) dL_law_551 (by decide) ?_
  refine e_iadd (pc := 552) dL_law_552 ?_
  have hi7 := hv.1
  replace hv := hv.2
  refine l_sld (pc := 553) dL_law_553 hi7 ?_
  refine e_aload_n (pc := 554) (i := 0) dL_law_554 rfl rfl ?_
  refine e_iload_n (pc := 555) (i := 3) dL_law_555 rfl rfl ?_
  refine e_iconst (pc := 556) (v := 2) dL_law_556 (by decide) ?_
  refine e_iadd (pc := 557) dL_law_557 ?_
  have hi8 := hv.1
  replace hv := hv.2
  refine l_sld (pc := 558) dL_law_558 hi8 ?_
  refine e_i2l (pc := 559) dL_law_559 ?_
  refine e_bipush (pc := 560) (v := 32) dL_law_560 (by decide) ?_
  refine e_lshl (pc := 562) dL_law_562 ?_
  refine e_aload_n (pc := 563) (i := 0) dL_law_563 rfl rfl ?_
  refine e_iload_n (pc := 564) (i := 3) dL_law_564 rfl rfl ?_
  refine e_iconst (pc := 565) (v := 3) dL_law_565 (by decide) ?_
  refine e_iadd (pc := 566) dL_law_566 ?_
  have hi9 := hv.1
  replace hv := hv.2
  refine l_sld (pc := 567) dL_law_567 hi9 ?_
  refine e_i2l (pc := 568) dL_law_568 ?_
  refine e_ldc2 (pc := 569) (v := 4294967295) dL_law_569 (tb_a6 178 (by decide +kernel) rfl) ?_
  refine e_land (pc := 572) dL_law_572 ?_
  refine e_lor (pc := 573) dL_law_573 ?_
  have k12 := hv.1
  replace hv := hv.2
  refine e_callVj (pc := 574) (ci := 11) (st := [vJ x5]) (rc' := rc) (rs' := rs) (B' := bX11_pay) [vI (xs (l3 + 1).toNatClampNeg), vJ ((((xs (l3 + 2).toNatClampNeg).toInt64) <<< ((32 : Int32).toInt64 &&& 63)) ||| (((xs (l3 + 3).toNatClampNeg).toInt64) &&& 4294967295))] dL_law_574 vRL_53 kX11_pay (by decide) rfl k12 rfl rfl (Nat.le_of_ble_eq_true rfl) ⟨Nat.le_of_ble_eq_true rfl, Nat.le_of_ble_eq_true rfl⟩ rfl rfl hv (fun x11 w10 hv => ?_)
  refine e_lcmp (pc := 577) dL_law_577 ?_
  refine e_if_eq (pc := 578) (tgt := 1707) dL_law_578 (by decide) (fun h13 => ?_) (fun h13 => ?_)
  · replace hv := hv.1 h13
    exact hv
  · replace hv := hv.2 h13
    refine e_iconst (pc := 581) (v := 0) dL_law_581 (by decide) ?_
    exact hv.elim
set_option maxRecDepth 100000 in
set_option maxHeartbeats 4000000 in
theorem tL_law_456 (X : Cx) (b L : Nat) (xs : Nat → Int32) (rc rs : Nat) (l1 l2 : Nat) (l3 : Int32) (w : Wd)
    (hv : vp_in (l3 + 1) L ∧ vp_in (l3 + 2) L ∧ vp_in (l3 + 3) L ∧ wK w l1 = 11 ∧ Ct X bX10_owe mX10_owe [vR l1, vI (xs (l3 + 1).toNatClampNeg), vJ ((((xs (l3 + 2).toNatClampNeg).toInt64) <<< ((32 : Int32).toInt64 &&& 63)) ||| (((xs (l3 + 3).toNatClampNeg).toInt64) &&& 4294967295))] w (qI fun x5 w4 => vp_in (l3 + 1) L ∧ vp_in (l3 + 2) L ∧ vp_in (l3 + 3) L ∧ wK w4 l2 = 12 ∧ Ct X bX11_owe mX11_owe [vR l2, vI (xs (l3 + 1).toNatClampNeg), vJ ((((xs (l3 + 2).toNatClampNeg).toInt64) <<< ((32 : Int32).toInt64 &&& 63)) ||| (((xs (l3 + 3).toNatClampNeg).toInt64) &&& 4294967295))] w4 (qI fun x11 w10 => ((x5 = x11) → jL_law_1707 X b L xs rc rs l1 l2 l3 w10) ∧ ((¬ x5 = x11) → False)))) :
    jL_law_456 X b L xs rc rs l1 l2 l3 w := by
  refine e_aload_n (pc := 456) (i := 1) dL_law_456 rfl rfl ?_
  refine e_aload_n (pc := 457) (i := 0) dL_law_457 rfl rfl ?_
  refine e_iload_n (pc := 458) (i := 3) dL_law_458 rfl rfl ?_
  refine e_iconst (pc := 459) (v := 1) dL_law_459 (by decide) ?_
  refine e_iadd (pc := 460) dL_law_460 ?_
  have hi1 := hv.1
  replace hv := hv.2
  refine l_sld (pc := 461) dL_law_461 hi1 ?_
  refine e_aload_n (pc := 462) (i := 0) dL_law_462 rfl rfl ?_
  refine e_iload_n (pc := 463) (i := 3) dL_law_463 rfl rfl ?_
  refine e_iconst (pc := 464) (v := 2) dL_law_464 (by decide) ?_
  refine e_iadd (pc := 465) dL_law_465 ?_
  have hi2 := hv.1
  replace hv := hv.2
  refine l_sld (pc := 466) dL_law_466 hi2 ?_
  refine e_i2l (pc := 467) dL_law_467 ?_
  refine e_bipush (pc := 468) (v := 32) dL_law_468 (by decide) ?_
  refine e_lshl (pc := 470) dL_law_470 ?_
  refine e_aload_n (pc := 471) (i := 0) dL_law_471 rfl rfl ?_
  refine e_iload_n (pc := 472) (i := 3) dL_law_472 rfl rfl ?_
  refine e_iconst (pc := 473) (v := 3) dL_law_473 (by decide) ?_
  refine e_iadd (pc := 474) dL_law_474 ?_
  have hi3 := hv.1
  replace hv := hv.2
  refine l_sld (pc := 475) dL_law_475 hi3 ?_
  refine e_i2l (pc := 476) dL_law_476 ?_
  refine e_ldc2 (pc := 477) (v := 4294967295) dL_law_477 (tb_a6 178 (by decide +kernel) rfl) ?_
  refine e_land (pc := 480) dL_law_480 ?_
  refine e_lor (pc := 481) dL_law_481 ?_
  have k6 := hv.1
  replace hv := hv.2
  refine e_callVi (pc := 482) (ci := 10) (st := []) (rc' := rc) (rs' := rs) (B' := bX10_owe) [vI (xs (l3 + 1).toNatClampNeg), vJ ((((xs (l3 + 2).toNatClampNeg).toInt64) <<< ((32 : Int32).toInt64 &&& 63)) ||| (((xs (l3 + 3).toNatClampNeg).toInt64) &&& 4294967295))] dL_law_482 vRL_44 kX10_owe (by decide) rfl k6 rfl rfl (Nat.le_of_ble_eq_true rfl) ⟨Nat.le_of_ble_eq_true rfl, Nat.le_of_ble_eq_true rfl⟩ rfl rfl hv (fun x5 w4 hv => ?_)
  refine e_aload_n (pc := 485) (i := 2) dL_law_485 rfl rfl ?_
  refine e_aload_n (pc := 486) (i := 0) dL_law_486 rfl rfl ?_
  refine e_iload_n (pc := 487) (i := 3) dL_law_487 rfl rfl ?_
  refine e_iconst (pc := 488) (v := 1) dL_law_488 (by decide) ?_
  refine e_iadd (pc := 489) dL_law_489 ?_
  have hi7 := hv.1
  replace hv := hv.2
  refine l_sld (pc := 490) dL_law_490 hi7 ?_
  refine e_aload_n (pc := 491) (i := 0) dL_law_491 rfl rfl ?_
  refine e_iload_n (pc := 492) (i := 3) dL_law_492 rfl rfl ?_
  refine e_iconst (pc := 493) (v := 2) dL_law_493 (by decide) ?_
  refine e_iadd (pc := 494) dL_law_494 ?_
  have hi8 := hv.1
  replace hv := hv.2
  refine l_sld (pc := 495) dL_law_495 hi8 ?_
  refine e_i2l (pc := 496) dL_law_496 ?_
  refine e_bipush (pc := 497) (v := 32) dL_law_497 (by decide) ?_
  refine e_lshl (pc := 499) dL_law_499 ?_
  refine e_aload_n (pc := 500) (i := 0) dL_law_500 rfl rfl ?_
  refine e_iload_n (pc := 501) (i := 3) dL_law_501 rfl rfl ?_
  refine e_iconst (pc := 502) (v := 3) dL_law_502 (by decide) ?_
  refine e_iadd (pc := 503) dL_law_503 ?_
  have hi9 := hv.1
  replace hv := hv.2
  refine l_sld (pc := 504) dL_law_504 hi9 ?_
  refine e_i2l (pc := 505) dL_law_505 ?_
  refine e_ldc2 (pc := 506) (v := 4294967295) dL_law_506 (tb_a6 178 (by decide +kernel) rfl) ?_
  refine e_land (pc := 509) dL_law_509 ?_
  refine e_lor (pc := 510) dL_law_510 ?_
  have k12 := hv.1
  replace hv := hv.2
  refine e_callVi (pc := 511) (ci := 11) (st := [vI x5]) (rc' := rc) (rs' := rs) (B' := bX11_owe) [vI (xs (l3 + 1).toNatClampNeg), vJ ((((xs (l3 + 2).toNatClampNeg).toInt64) <<< ((32 : Int32).toInt64 &&& 63)) ||| (((xs (l3 + 3).toNatClampNeg).toInt64) &&& 4294967295))] dL_law_511 vRL_48 kX11_owe (by decide) rfl k12 rfl rfl (Nat.le_of_ble_eq_true rfl) ⟨Nat.le_of_ble_eq_true rfl, Nat.le_of_ble_eq_true rfl⟩ rfl rfl hv (fun x11 w10 hv => ?_)
  refine e_icmp_eq (pc := 514) (tgt := 1707) dL_law_514 (by decide) (fun h13 => ?_) (fun h13 => ?_)
  · replace hv := hv.1 h13
    exact hv
  · replace hv := hv.2 h13
    refine e_iconst (pc := 517) (v := 0) dL_law_517 (by decide) ?_
    exact hv.elim
set_option maxRecDepth 100000 in
set_option maxHeartbeats 4000000 in
theorem tL_law_413 (X : Cx) (b L : Nat) (xs : Nat → Int32) (rc rs : Nat) (l1 l2 : Nat) (l3 : Int32) (w : Wd)
    (hv : vp_in (l3 + 1) L ∧ vp_in (l3 + 2) L ∧ vp_in (l3 + 3) L ∧ ∃ rc4 rs5 : Nat, (rc = rc4 + 1 ∧ rs = rs5 + 2) ∧ wK w l1 = 11 ∧ Ct X bX10_claim mX10_claim [vR l1, vI (xs (l3 + 1).toNatClampNeg), vI (xs (l3 + 2).toNatClampNeg), vI (xs (l3 + 3).toNatClampNeg)] w (qI fun x8 w7 => vp_in (l3 + 1) L ∧ vp_in (l3 + 2) L ∧ vp_in (l3 + 3) L ∧ wK w7 l2 = 12 ∧ Ct X bX11_claim mX11_claim [vR l2, vI (xs (l3 + 1).toNatClampNeg), vI (xs (l3 + 2).toNatClampNeg), vI (xs (l3 + 3).toNatClampNeg)] w7 (qI fun x14 w13 => ((x8 = x14) → jL_law_1707 X b L xs rc4 rs5 l1 l2 l3 w13) ∧ ((¬ x8 = x14) → False)))) :
    jL_law_413 X b L xs rc rs l1 l2 l3 w := by
  refine e_aload_n (pc := 413) (i := 1) dL_law_413 rfl rfl ?_
  refine e_aload_n (pc := 414) (i := 0) dL_law_414 rfl rfl ?_
  refine e_iload_n (pc := 415) (i := 3) dL_law_415 rfl rfl ?_
  refine e_iconst (pc := 416) (v := 1) dL_law_416 (by decide) ?_
  refine e_iadd (pc := 417) dL_law_417 ?_
  have hi1 := hv.1
  replace hv := hv.2
  refine l_sld (pc := 418) dL_law_418 hi1 ?_
  refine e_aload_n (pc := 419) (i := 0) dL_law_419 rfl rfl ?_
  refine e_iload_n (pc := 420) (i := 3) dL_law_420 rfl rfl ?_
  refine e_iconst (pc := 421) (v := 2) dL_law_421 (by decide) ?_
  refine e_iadd (pc := 422) dL_law_422 ?_
  have hi2 := hv.1
  replace hv := hv.2
  refine l_sld (pc := 423) dL_law_423 hi2 ?_
  refine e_aload_n (pc := 424) (i := 0) dL_law_424 rfl rfl ?_
  refine e_iload_n (pc := 425) (i := 3) dL_law_425 rfl rfl ?_
  refine e_iconst (pc := 426) (v := 3) dL_law_426 (by decide) ?_
  refine e_iadd (pc := 427) dL_law_427 ?_
  have hi3 := hv.1
  replace hv := hv.2
  refine l_sld (pc := 428) dL_law_428 hi3 ?_
  obtain ⟨rc4, rs5, hr6, hv⟩ := hv
  have k9 := hv.1
  replace hv := hv.2
  refine e_callVi (pc := 429) (ci := 10) (st := []) (rc' := rc4) (rs' := rs5) (B' := bX10_claim) [vI (xs (l3 + 1).toNatClampNeg), vI (xs (l3 + 2).toNatClampNeg), vI (xs (l3 + 3).toNatClampNeg)] dL_law_429 vRL_39 kX10_claim (by decide) rfl k9 rfl rfl (Nat.le_of_ble_eq_true rfl) ⟨Nat.le_of_ble_eq_true rfl, Nat.le_of_ble_eq_true rfl⟩ hr6.1 hr6.2 hv (fun x8 w7 hv => ?_)
  refine e_aload_n (pc := 432) (i := 2) dL_law_432 rfl rfl ?_
  refine e_aload_n (pc := 433) (i := 0) dL_law_433 rfl rfl ?_
  refine e_iload_n (pc := 434) (i := 3) dL_law_434 rfl rfl ?_
  refine e_iconst (pc := 435) (v := 1) dL_law_435 (by decide) ?_
  refine e_iadd (pc := 436) dL_law_436 ?_
  have hi10 := hv.1
  replace hv := hv.2
  refine l_sld (pc := 437) dL_law_437 hi10 ?_
  refine e_aload_n (pc := 438) (i := 0) dL_law_438 rfl rfl ?_
  refine e_iload_n (pc := 439) (i := 3) dL_law_439 rfl rfl ?_
  refine e_iconst (pc := 440) (v := 2) dL_law_440 (by decide) ?_
  refine e_iadd (pc := 441) dL_law_441 ?_
  have hi11 := hv.1
  replace hv := hv.2
  refine l_sld (pc := 442) dL_law_442 hi11 ?_
  refine e_aload_n (pc := 443) (i := 0) dL_law_443 rfl rfl ?_
  refine e_iload_n (pc := 444) (i := 3) dL_law_444 rfl rfl ?_
  refine e_iconst (pc := 445) (v := 3) dL_law_445 (by decide) ?_
  refine e_iadd (pc := 446) dL_law_446 ?_
  have hi12 := hv.1
  replace hv := hv.2
  refine l_sld (pc := 447) dL_law_447 hi12 ?_
  have k15 := hv.1
  replace hv := hv.2
  refine e_callVi (pc := 448) (ci := 11) (st := [vI x8]) (rc' := rc4) (rs' := rs5) (B' := bX11_claim) [vI (xs (l3 + 1).toNatClampNeg), vI (xs (l3 + 2).toNatClampNeg), vI (xs (l3 + 3).toNatClampNeg)] dL_law_448 vRL_43 kX11_claim (by decide) rfl k15 rfl rfl (Nat.le_of_ble_eq_true rfl) ⟨Nat.le_of_ble_eq_true rfl, Nat.le_of_ble_eq_true rfl⟩ rfl rfl hv (fun x14 w13 hv => ?_)
  refine e_icmp_eq (pc := 451) (tgt := 1707) dL_law_451 (by decide) (fun h16 => ?_) (fun h16 => ?_)
  · replace hv := hv.1 h16
    exact hv
  · replace hv := hv.2 h16
    refine e_iconst (pc := 454) (v := 0) dL_law_454 (by decide) ?_
    exact hv.elim
set_option maxRecDepth 100000 in
set_option maxHeartbeats 4000000 in
theorem tL_law_286 (X : Cx) (b L : Nat) (xs : Nat → Int32) (rc rs : Nat) (l1 l2 : Nat) (l3 : Int32) (w : Wd)
    (hv : vp_in (l3 + 1) L ∧ vp_in (l3 + 2) L ∧ vp_in (l3 + 3) L ∧ vp_in (l3 + 4) L ∧ vp_in (l3 + 5) L ∧ vp_in (l3 + 6) L ∧ vp_in (l3 + 7) L ∧ ∃ rc8 rs9 : Nat, (rc = rc8 + 4 ∧ rs = rs9 + 40) ∧ wK w l1 = 11 ∧ Ct X bX10_enter mX10_enter [vR l1, vI (xs (l3 + 1).toNatClampNeg), vI (xs (l3 + 2).toNatClampNeg), vJ ((((xs (l3 + 3).toNatClampNeg).toInt64) <<< ((32 : Int32).toInt64 &&& 63)) ||| (((xs (l3 + 4).toNatClampNeg).toInt64) &&& 4294967295)), vI (xs (l3 + 5).toNatClampNeg), vJ ((((xs (l3 + 6).toNatClampNeg).toInt64) <<< ((32 : Int32).toInt64 &&& 63)) ||| (((xs (l3 + 7).toNatClampNeg).toInt64) &&& 4294967295))] w (qI fun x12 w11 => vp_in (l3 + 1) L ∧ vp_in (l3 + 2) L ∧ vp_in (l3 + 3) L ∧ vp_in (l3 + 4) L ∧ vp_in (l3 + 5) L ∧ vp_in (l3 + 6) L ∧ vp_in (l3 + 7) L ∧ wK w11 l2 = 12 ∧ Ct X bX11_enter mX11_enter [vR l2, vI (xs (l3 + 1).toNatClampNeg), vI (xs (l3 + 2).toNatClampNeg), vJ ((((xs (l3 + 3).toNatClampNeg).toInt64) <<< ((32 : Int32).toInt64 &&& 63)) ||| (((xs (l3 + 4).toNatClampNeg).toInt64) &&& 4294967295)), vI (xs (l3 + 5).toNatClampNeg), vJ ((((xs (l3 + 6).toNatClampNeg).toInt64) <<< ((32 : Int32).toInt64 &&& 63)) ||| (((xs (l3 + 7).toNatClampNeg).toInt64) &&& 4294967295))] w11 (qI fun x22 w21 => ((x12 = x22) → jL_law_1707 X b L xs rc8 rs9 l1 l2 l3 w21) ∧ ((¬ x12 = x22) → False)))) :
    jL_law_286 X b L xs rc rs l1 l2 l3 w := by
  refine e_aload_n (pc := 286) (i := 1) dL_law_286 rfl rfl ?_
  refine e_aload_n (pc := 287) (i := 0) dL_law_287 rfl rfl ?_
  refine e_iload_n (pc := 288) (i := 3) dL_law_288 rfl rfl ?_
  refine e_iconst (pc := 289) (v := 1) dL_law_289 (by decide) ?_
  refine e_iadd (pc := 290) dL_law_290 ?_
  have hi1 := hv.1
  replace hv := hv.2
  refine l_sld (pc := 291) dL_law_291 hi1 ?_
  refine e_aload_n (pc := 292) (i := 0) dL_law_292 rfl rfl ?_
  refine e_iload_n (pc := 293) (i := 3) dL_law_293 rfl rfl ?_
  refine e_iconst (pc := 294) (v := 2) dL_law_294 (by decide) ?_
  refine e_iadd (pc := 295) dL_law_295 ?_
  have hi2 := hv.1
  replace hv := hv.2
  refine l_sld (pc := 296) dL_law_296 hi2 ?_
  refine e_aload_n (pc := 297) (i := 0) dL_law_297 rfl rfl ?_
  refine e_iload_n (pc := 298) (i := 3) dL_law_298 rfl rfl ?_
  refine e_iconst (pc := 299) (v := 3) dL_law_299 (by decide) ?_
  refine e_iadd (pc := 300) dL_law_300 ?_
  have hi3 := hv.1
  replace hv := hv.2
  refine l_sld (pc := 301) dL_law_301 hi3 ?_
  refine e_i2l (pc := 302) dL_law_302 ?_
  refine e_bipush (pc := 303) (v := 32) dL_law_303 (by decide) ?_
  refine e_lshl (pc := 305) dL_law_305 ?_
  refine e_aload_n (pc := 306) (i := 0) dL_law_306 rfl rfl ?_
  refine e_iload_n (pc := 307) (i := 3) dL_law_307 rfl rfl ?_
  refine e_iconst (pc := 308) (v := 4) dL_law_308 (by decide) ?_
  refine e_iadd (pc := 309) dL_law_309 ?_
  have hi4 := hv.1
  replace hv := hv.2
  refine l_sld (pc := 310) dL_law_310 hi4 ?_
  refine e_i2l (pc := 311) dL_law_311 ?_
  refine e_ldc2 (pc := 312) (v := 4294967295) dL_law_312 (tb_a6 178 (by decide +kernel) rfl) ?_
  refine e_land (pc := 315) dL_law_315 ?_
  refine e_lor (pc := 316) dL_law_316 ?_
  refine e_aload_n (pc := 317) (i := 0) dL_law_317 rfl rfl ?_
  refine e_iload_n (pc := 318) (i := 3) dL_law_318 rfl rfl ?_
  refine e_iconst (pc := 319) (v := 5) dL_law_319 (by decide) ?_
  refine e_iadd (pc := 320) dL_law_320 ?_
  have hi5 := hv.1
  replace hv := hv.2
  refine l_sld (pc := 321) dL_law_321 hi5 ?_
  refine e_aload_n (pc := 322) (i := 0) dL_law_322 rfl rfl ?_
  refine e_iload_n (pc := 323) (i := 3) dL_law_323 rfl rfl ?_
  refine e_bipush (pc := 324) (v := 6) dL_law_324 (by decide) ?_
  refine e_iadd (pc := 326) dL_law_326 ?_
  have hi6 := hv.1
  replace hv := hv.2
  refine l_sld (pc := 327) dL_law_327 hi6 ?_
  refine e_i2l (pc := 328) dL_law_328 ?_
  refine e_bipush (pc := 329) (v := 32) dL_law_329 (by decide) ?_
  refine e_lshl (pc := 331) dL_law_331 ?_
  refine e_aload_n (pc := 332) (i := 0) dL_law_332 rfl rfl ?_
  refine e_iload_n (pc := 333) (i := 3) dL_law_333 rfl rfl ?_
  refine e_bipush (pc := 334) (v := 7) dL_law_334 (by decide) ?_
  refine e_iadd (pc := 336) dL_law_336 ?_
  have hi7 := hv.1
  replace hv := hv.2
  refine l_sld (pc := 337) dL_law_337 hi7 ?_
  refine e_i2l (pc := 338) dL_law_338 ?_
  refine e_ldc2 (pc := 339) (v := 4294967295) dL_law_339 (tb_a6 178 (by decide +kernel) rfl) ?_
  refine e_land (pc := 342) dL_law_342 ?_
  refine e_lor (pc := 343) dL_law_343 ?_
  obtain ⟨rc8, rs9, hr10, hv⟩ := hv
  have k13 := hv.1
  replace hv := hv.2
  refine e_callVi (pc := 344) (ci := 10) (st := []) (rc' := rc8) (rs' := rs9) (B' := bX10_enter) [vI (xs (l3 + 1).toNatClampNeg), vI (xs (l3 + 2).toNatClampNeg), vJ ((((xs (l3 + 3).toNatClampNeg).toInt64) <<< ((32 : Int32).toInt64 &&& 63)) ||| (((xs (l3 + 4).toNatClampNeg).toInt64) &&& 4294967295)), vI (xs (l3 + 5).toNatClampNeg), vJ ((((xs (l3 + 6).toNatClampNeg).toInt64) <<< ((32 : Int32).toInt64 &&& 63)) ||| (((xs (l3 + 7).toNatClampNeg).toInt64) &&& 4294967295))] dL_law_344 vRL_34 kX10_enter (by decide) rfl k13 rfl rfl (Nat.le_of_ble_eq_true rfl) ⟨Nat.le_of_ble_eq_true rfl, Nat.le_of_ble_eq_true rfl⟩ hr10.1 hr10.2 hv (fun x12 w11 hv => ?_)
  refine e_aload_n (pc := 347) (i := 2) dL_law_347 rfl rfl ?_
  refine e_aload_n (pc := 348) (i := 0) dL_law_348 rfl rfl ?_
  refine e_iload_n (pc := 349) (i := 3) dL_law_349 rfl rfl ?_
  refine e_iconst (pc := 350) (v := 1) dL_law_350 (by decide) ?_
  refine e_iadd (pc := 351) dL_law_351 ?_
  have hi14 := hv.1
  replace hv := hv.2
  refine l_sld (pc := 352) dL_law_352 hi14 ?_
  refine e_aload_n (pc := 353) (i := 0) dL_law_353 rfl rfl ?_
  refine e_iload_n (pc := 354) (i := 3) dL_law_354 rfl rfl ?_
  refine e_iconst (pc := 355) (v := 2) dL_law_355 (by decide) ?_
  refine e_iadd (pc := 356) dL_law_356 ?_
  have hi15 := hv.1
  replace hv := hv.2
  refine l_sld (pc := 357) dL_law_357 hi15 ?_
  refine e_aload_n (pc := 358) (i := 0) dL_law_358 rfl rfl ?_
  refine e_iload_n (pc := 359) (i := 3) dL_law_359 rfl rfl ?_
  refine e_iconst (pc := 360) (v := 3) dL_law_360 (by decide) ?_
  refine e_iadd (pc := 361) dL_law_361 ?_
  have hi16 := hv.1
  replace hv := hv.2
  refine l_sld (pc := 362) dL_law_362 hi16 ?_
  refine e_i2l (pc := 363) dL_law_363 ?_
  refine e_bipush (pc := 364) (v := 32) dL_law_364 (by decide) ?_
  refine e_lshl (pc := 366) dL_law_366 ?_
  refine e_aload_n (pc := 367) (i := 0) dL_law_367 rfl rfl ?_
  refine e_iload_n (pc := 368) (i := 3) dL_law_368 rfl rfl ?_
  refine e_iconst (pc := 369) (v := 4) dL_law_369 (by decide) ?_
  refine e_iadd (pc := 370) dL_law_370 ?_
  have hi17 := hv.1
  replace hv := hv.2
  refine l_sld (pc := 371) dL_law_371 hi17 ?_
  refine e_i2l (pc := 372) dL_law_372 ?_
  refine e_ldc2 (pc := 373) (v := 4294967295) dL_law_373 (tb_a6 178 (by decide +kernel) rfl) ?_
  refine e_land (pc := 376) dL_law_376 ?_
  refine e_lor (pc := 377) dL_law_377 ?_
  refine e_aload_n (pc := 378) (i := 0) dL_law_378 rfl rfl ?_
  refine e_iload_n (pc := 379) (i := 3) dL_law_379 rfl rfl ?_
  refine e_iconst (pc := 380) (v := 5) dL_law_380 (by decide) ?_
  refine e_iadd (pc := 381) dL_law_381 ?_
  have hi18 := hv.1
  replace hv := hv.2
  refine l_sld (pc := 382) dL_law_382 hi18 ?_
  refine e_aload_n (pc := 383) (i := 0) dL_law_383 rfl rfl ?_
  refine e_iload_n (pc := 384) (i := 3) dL_law_384 rfl rfl ?_
  refine e_bipush (pc := 385) (v := 6) dL_law_385 (by decide) ?_
  refine e_iadd (pc := 387) dL_law_387 ?_
  have hi19 := hv.1
  replace hv := hv.2
  refine l_sld (pc := 388) dL_law_388 hi19 ?_
  refine e_i2l (pc := 389) dL_law_389 ?_
  refine e_bipush (pc := 390) (v := 32) dL_law_390 (by decide) ?_
  refine e_lshl (pc := 392) dL_law_392 ?_
  refine e_aload_n (pc := 393) (i := 0) dL_law_393 rfl rfl ?_
  refine e_iload_n (pc := 394) (i := 3) dL_law_394 rfl rfl ?_
  refine e_bipush (pc := 395) (v := 7) dL_law_395 (by decide) ?_
  refine e_iadd (pc := 397) dL_law_397 ?_
  have hi20 := hv.1
  replace hv := hv.2
  refine l_sld (pc := 398) dL_law_398 hi20 ?_
  refine e_i2l (pc := 399) dL_law_399 ?_
  refine e_ldc2 (pc := 400) (v := 4294967295) dL_law_400 (tb_a6 178 (by decide +kernel) rfl) ?_
  refine e_land (pc := 403) dL_law_403 ?_
  refine e_lor (pc := 404) dL_law_404 ?_
  have k23 := hv.1
  replace hv := hv.2
  refine e_callVi (pc := 405) (ci := 11) (st := [vI x12]) (rc' := rc8) (rs' := rs9) (B' := bX11_enter) [vI (xs (l3 + 1).toNatClampNeg), vI (xs (l3 + 2).toNatClampNeg), vJ ((((xs (l3 + 3).toNatClampNeg).toInt64) <<< ((32 : Int32).toInt64 &&& 63)) ||| (((xs (l3 + 4).toNatClampNeg).toInt64) &&& 4294967295)), vI (xs (l3 + 5).toNatClampNeg), vJ ((((xs (l3 + 6).toNatClampNeg).toInt64) <<< ((32 : Int32).toInt64 &&& 63)) ||| (((xs (l3 + 7).toNatClampNeg).toInt64) &&& 4294967295))] dL_law_405 vRL_38 kX11_enter (by decide) rfl k23 rfl rfl (Nat.le_of_ble_eq_true rfl) ⟨Nat.le_of_ble_eq_true rfl, Nat.le_of_ble_eq_true rfl⟩ rfl rfl hv (fun x22 w21 hv => ?_)
  refine e_icmp_eq (pc := 408) (tgt := 1707) dL_law_408 (by decide) (fun h24 => ?_) (fun h24 => ?_)
  · replace hv := hv.1 h24
    exact hv
  · replace hv := hv.2 h24
    refine e_iconst (pc := 411) (v := 0) dL_law_411 (by decide) ?_
    exact hv.elim
set_option maxRecDepth 100000 in
set_option maxHeartbeats 4000000 in
theorem tL_law_263 (X : Cx) (b L : Nat) (xs : Nat → Int32) (rc rs : Nat) (l1 l2 : Nat) (l3 : Int32) (w : Wd)
    (hv : vp_in (l3 + 1) L ∧ wK w l1 = 11 ∧ Ct X bX10_since mX10_since [vR l1, vI (xs (l3 + 1).toNatClampNeg)] w (qI fun x3 w2 => vp_in (l3 + 1) L ∧ wK w2 l2 = 12 ∧ Ct X bX11_since mX11_since [vR l2, vI (xs (l3 + 1).toNatClampNeg)] w2 (qI fun x7 w6 => ((x3 = x7) → jL_law_1707 X b L xs rc rs l1 l2 l3 w6) ∧ ((¬ x3 = x7) → False)))) :
    jL_law_263 X b L xs rc rs l1 l2 l3 w := by
  refine e_aload_n (pc := 263) (i := 1) dL_law_263 rfl rfl ?_
  refine e_aload_n (pc := 264) (i := 0) dL_law_264 rfl rfl ?_
  refine e_iload_n (pc := 265) (i := 3) dL_law_265 rfl rfl ?_
  refine e_iconst (pc := 266) (v := 1) dL_law_266 (by decide) ?_
  refine e_iadd (pc := 267) dL_law_267 ?_
  have hi1 := hv.1
  replace hv := hv.2
  refine l_sld (pc := 268) dL_law_268 hi1 ?_
  have k4 := hv.1
  replace hv := hv.2
  refine e_callVi (pc := 269) (ci := 10) (st := []) (rc' := rc) (rs' := rs) (B' := bX10_since) [vI (xs (l3 + 1).toNatClampNeg)] dL_law_269 vRL_28 kX10_since (by decide) rfl k4 rfl rfl (Nat.le_of_ble_eq_true rfl) ⟨Nat.le_of_ble_eq_true rfl, Nat.le_of_ble_eq_true rfl⟩ rfl rfl hv (fun x3 w2 hv => ?_)
  refine e_aload_n (pc := 272) (i := 2) dL_law_272 rfl rfl ?_
  refine e_aload_n (pc := 273) (i := 0) dL_law_273 rfl rfl ?_
  refine e_iload_n (pc := 274) (i := 3) dL_law_274 rfl rfl ?_
  refine e_iconst (pc := 275) (v := 1) dL_law_275 (by decide) ?_
  refine e_iadd (pc := 276) dL_law_276 ?_
  have hi5 := hv.1
  replace hv := hv.2
  refine l_sld (pc := 277) dL_law_277 hi5 ?_
  have k8 := hv.1
  replace hv := hv.2
  refine e_callVi (pc := 278) (ci := 11) (st := [vI x3]) (rc' := rc) (rs' := rs) (B' := bX11_since) [vI (xs (l3 + 1).toNatClampNeg)] dL_law_278 vRL_31 kX11_since (by decide) rfl k8 rfl rfl (Nat.le_of_ble_eq_true rfl) ⟨Nat.le_of_ble_eq_true rfl, Nat.le_of_ble_eq_true rfl⟩ rfl rfl hv (fun x7 w6 hv => ?_)
  refine e_icmp_eq (pc := 281) (tgt := 1707) dL_law_281 (by decide) (fun h9 => ?_) (fun h9 => ?_)
  · replace hv := hv.1 h9
    exact hv
  · replace hv := hv.2 h9
    refine e_iconst (pc := 284) (v := 0) dL_law_284 (by decide) ?_
    exact hv.elim
set_option maxRecDepth 100000 in
set_option maxHeartbeats 4000000 in
theorem tL_law_240 (X : Cx) (b L : Nat) (xs : Nat → Int32) (rc rs : Nat) (l1 l2 : Nat) (l3 : Int32) (w : Wd)
    (hv : vp_in (l3 + 1) L ∧ ∃ rc2 rs3 : Nat, (rc = rc2 + 1 ∧ rs = rs3 + 2) ∧ wK w l1 = 11 ∧ Ct X bX10_day mX10_day [vR l1, vI (xs (l3 + 1).toNatClampNeg)] w (qI fun x6 w5 => vp_in (l3 + 1) L ∧ wK w5 l2 = 12 ∧ Ct X bX11_day mX11_day [vR l2, vI (xs (l3 + 1).toNatClampNeg)] w5 (qI fun x10 w9 => ((x6 = x10) → jL_law_1707 X b L xs rc2 rs3 l1 l2 l3 w9) ∧ ((¬ x6 = x10) → False)))) :
    jL_law_240 X b L xs rc rs l1 l2 l3 w := by
  refine e_aload_n (pc := 240) (i := 1) dL_law_240 rfl rfl ?_
  refine e_aload_n (pc := 241) (i := 0) dL_law_241 rfl rfl ?_
  refine e_iload_n (pc := 242) (i := 3) dL_law_242 rfl rfl ?_
  refine e_iconst (pc := 243) (v := 1) dL_law_243 (by decide) ?_
  refine e_iadd (pc := 244) dL_law_244 ?_
  have hi1 := hv.1
  replace hv := hv.2
  refine l_sld (pc := 245) dL_law_245 hi1 ?_
  obtain ⟨rc2, rs3, hr4, hv⟩ := hv
  have k7 := hv.1
  replace hv := hv.2
  refine e_callVi (pc := 246) (ci := 10) (st := []) (rc' := rc2) (rs' := rs3) (B' := bX10_day) [vI (xs (l3 + 1).toNatClampNeg)] dL_law_246 vRL_23 kX10_day (by decide) rfl k7 rfl rfl (Nat.le_of_ble_eq_true rfl) ⟨Nat.le_of_ble_eq_true rfl, Nat.le_of_ble_eq_true rfl⟩ hr4.1 hr4.2 hv (fun x6 w5 hv => ?_)
  refine e_aload_n (pc := 249) (i := 2) dL_law_249 rfl rfl ?_
  refine e_aload_n (pc := 250) (i := 0) dL_law_250 rfl rfl ?_
  refine e_iload_n (pc := 251) (i := 3) dL_law_251 rfl rfl ?_
  refine e_iconst (pc := 252) (v := 1) dL_law_252 (by decide) ?_
  refine e_iadd (pc := 253) dL_law_253 ?_
  have hi8 := hv.1
  replace hv := hv.2
  refine l_sld (pc := 254) dL_law_254 hi8 ?_
  have k11 := hv.1
  replace hv := hv.2
  refine e_callVi (pc := 255) (ci := 11) (st := [vI x6]) (rc' := rc2) (rs' := rs3) (B' := bX11_day) [vI (xs (l3 + 1).toNatClampNeg)] dL_law_255 vRL_27 kX11_day (by decide) rfl k11 rfl rfl (Nat.le_of_ble_eq_true rfl) ⟨Nat.le_of_ble_eq_true rfl, Nat.le_of_ble_eq_true rfl⟩ rfl rfl hv (fun x10 w9 hv => ?_)
  refine e_icmp_eq (pc := 258) (tgt := 1707) dL_law_258 (by decide) (fun h12 => ?_) (fun h12 => ?_)
  · replace hv := hv.1 h12
    exact hv
  · replace hv := hv.2 h12
    refine e_iconst (pc := 261) (v := 0) dL_law_261 (by decide) ?_
    exact hv.elim
set_option maxRecDepth 100000 in
set_option maxHeartbeats 4000000 in
theorem tL_law_207 (X : Cx) (b L : Nat) (xs : Nat → Int32) (rc rs : Nat) (l1 l2 : Nat) (l3 : Int32) (w : Wd)
    (hv : vp_in (l3 + 1) L ∧ vp_in (l3 + 2) L ∧ wK w l1 = 11 ∧ Ct X bX10_tear mX10_tear [vR l1, vI (xs (l3 + 1).toNatClampNeg), vI (xs (l3 + 2).toNatClampNeg)] w (qI fun x4 w3 => vp_in (l3 + 1) L ∧ vp_in (l3 + 2) L ∧ wK w3 l2 = 12 ∧ Ct X bX11_tear mX11_tear [vR l2, vI (xs (l3 + 1).toNatClampNeg), vI (xs (l3 + 2).toNatClampNeg)] w3 (qI fun x9 w8 => ((x4 = x9) → jL_law_1707 X b L xs rc rs l1 l2 l3 w8) ∧ ((¬ x4 = x9) → False)))) :
    jL_law_207 X b L xs rc rs l1 l2 l3 w := by
  refine e_aload_n (pc := 207) (i := 1) dL_law_207 rfl rfl ?_
  refine e_aload_n (pc := 208) (i := 0) dL_law_208 rfl rfl ?_
  refine e_iload_n (pc := 209) (i := 3) dL_law_209 rfl rfl ?_
  refine e_iconst (pc := 210) (v := 1) dL_law_210 (by decide) ?_
  refine e_iadd (pc := 211) dL_law_211 ?_
  have hi1 := hv.1
  replace hv := hv.2
  refine l_sld (pc := 212) dL_law_212 hi1 ?_
  refine e_aload_n (pc := 213) (i := 0) dL_law_213 rfl rfl ?_
  refine e_iload_n (pc := 214) (i := 3) dL_law_214 rfl rfl ?_
  refine e_iconst (pc := 215) (v := 2) dL_law_215 (by decide) ?_
  refine e_iadd (pc := 216) dL_law_216 ?_
  have hi2 := hv.1
  replace hv := hv.2
  refine l_sld (pc := 217) dL_law_217 hi2 ?_
  have k5 := hv.1
  replace hv := hv.2
  refine e_callVi (pc := 218) (ci := 10) (st := []) (rc' := rc) (rs' := rs) (B' := bX10_tear) [vI (xs (l3 + 1).toNatClampNeg), vI (xs (l3 + 2).toNatClampNeg)] dL_law_218 vRL_18 kX10_tear (by decide) rfl k5 rfl rfl (Nat.le_of_ble_eq_true rfl) ⟨Nat.le_of_ble_eq_true rfl, Nat.le_of_ble_eq_true rfl⟩ rfl rfl hv (fun x4 w3 hv => ?_)
  refine e_aload_n (pc := 221) (i := 2) dL_law_221 rfl rfl ?_
  refine e_aload_n (pc := 222) (i := 0) dL_law_222 rfl rfl ?_
  refine e_iload_n (pc := 223) (i := 3) dL_law_223 rfl rfl ?_
  refine e_iconst (pc := 224) (v := 1) dL_law_224 (by decide) ?_
  refine e_iadd (pc := 225) dL_law_225 ?_
  have hi6 := hv.1
  replace hv := hv.2
  refine l_sld (pc := 226) dL_law_226 hi6 ?_
  refine e_aload_n (pc := 227) (i := 0) dL_law_227 rfl rfl ?_
  refine e_iload_n (pc := 228) (i := 3) dL_law_228 rfl rfl ?_
  refine e_iconst (pc := 229) (v := 2) dL_law_229 (by decide) ?_
  refine e_iadd (pc := 230) dL_law_230 ?_
  have hi7 := hv.1
  replace hv := hv.2
  refine l_sld (pc := 231) dL_law_231 hi7 ?_
  have k10 := hv.1
  replace hv := hv.2
  refine e_callVi (pc := 232) (ci := 11) (st := [vI x4]) (rc' := rc) (rs' := rs) (B' := bX11_tear) [vI (xs (l3 + 1).toNatClampNeg), vI (xs (l3 + 2).toNatClampNeg)] dL_law_232 vRL_22 kX11_tear (by decide) rfl k10 rfl rfl (Nat.le_of_ble_eq_true rfl) ⟨Nat.le_of_ble_eq_true rfl, Nat.le_of_ble_eq_true rfl⟩ rfl rfl hv (fun x9 w8 hv => ?_)
  refine e_icmp_eq (pc := 235) (tgt := 1707) dL_law_235 (by decide) (fun h11 => ?_) (fun h11 => ?_)
  · replace hv := hv.1 h11
    exact hv
  · replace hv := hv.2 h11
    refine e_iconst (pc := 238) (v := 0) dL_law_238 (by decide) ?_
    exact hv.elim
set_option maxRecDepth 100000 in
set_option maxHeartbeats 4000000 in
theorem tL_law_184 (X : Cx) (b L : Nat) (xs : Nat → Int32) (rc rs : Nat) (l1 l2 : Nat) (l3 : Int32) (w : Wd)
    (hv : vp_in (l3 + 1) L ∧ ∃ rc2 rs3 : Nat, (rc = rc2 + 1 ∧ rs = rs3 + 5) ∧ wK w l1 = 11 ∧ Ct X bX10_folio mX10_folio [vR l1, vI (xs (l3 + 1).toNatClampNeg)] w (qI fun x6 w5 => vp_in (l3 + 1) L ∧ wK w5 l2 = 12 ∧ Ct X bX11_folio mX11_folio [vR l2, vI (xs (l3 + 1).toNatClampNeg)] w5 (qI fun x10 w9 => ((x6 = x10) → jL_law_1707 X b L xs rc2 rs3 l1 l2 l3 w9) ∧ ((¬ x6 = x10) → False)))) :
    jL_law_184 X b L xs rc rs l1 l2 l3 w := by
  refine e_aload_n (pc := 184) (i := 1) dL_law_184 rfl rfl ?_
  refine e_aload_n (pc := 185) (i := 0) dL_law_185 rfl rfl ?_
  refine e_iload_n (pc := 186) (i := 3) dL_law_186 rfl rfl ?_
  refine e_iconst (pc := 187) (v := 1) dL_law_187 (by decide) ?_
  refine e_iadd (pc := 188) dL_law_188 ?_
  have hi1 := hv.1
  replace hv := hv.2
  refine l_sld (pc := 189) dL_law_189 hi1 ?_
  obtain ⟨rc2, rs3, hr4, hv⟩ := hv
  have k7 := hv.1
  replace hv := hv.2
  refine e_callVi (pc := 190) (ci := 10) (st := []) (rc' := rc2) (rs' := rs3) (B' := bX10_folio) [vI (xs (l3 + 1).toNatClampNeg)] dL_law_190 vRL_13 kX10_folio (by decide) rfl k7 rfl rfl (Nat.le_of_ble_eq_true rfl) ⟨Nat.le_of_ble_eq_true rfl, Nat.le_of_ble_eq_true rfl⟩ hr4.1 hr4.2 hv (fun x6 w5 hv => ?_)
  refine e_aload_n (pc := 193) (i := 2) dL_law_193 rfl rfl ?_
  refine e_aload_n (pc := 194) (i := 0) dL_law_194 rfl rfl ?_
  refine e_iload_n (pc := 195) (i := 3) dL_law_195 rfl rfl ?_
  refine e_iconst (pc := 196) (v := 1) dL_law_196 (by decide) ?_
  refine e_iadd (pc := 197) dL_law_197 ?_
  have hi8 := hv.1
  replace hv := hv.2
  refine l_sld (pc := 198) dL_law_198 hi8 ?_
  have k11 := hv.1
  replace hv := hv.2
  refine e_callVi (pc := 199) (ci := 11) (st := [vI x6]) (rc' := rc2) (rs' := rs3) (B' := bX11_folio) [vI (xs (l3 + 1).toNatClampNeg)] dL_law_199 vRL_17 kX11_folio (by decide) rfl k11 rfl rfl (Nat.le_of_ble_eq_true rfl) ⟨Nat.le_of_ble_eq_true rfl, Nat.le_of_ble_eq_true rfl⟩ rfl rfl hv (fun x10 w9 hv => ?_)
  refine e_icmp_eq (pc := 202) (tgt := 1707) dL_law_202 (by decide) (fun h12 => ?_) (fun h12 => ?_)
  · replace hv := hv.1 h12
    exact hv
  · replace hv := hv.2 h12
    refine e_iconst (pc := 205) (v := 0) dL_law_205 (by decide) ?_
    exact hv.elim
set_option maxRecDepth 100000 in
set_option maxHeartbeats 4000000 in
theorem tL_law_18 (X : Cx) (b L : Nat) (xs : Nat → Int32) (rc rs : Nat) (l1 l2 : Nat) (l3 : Int32) (w : Wd)
    (hv : ((((Int32.ofNat L) - 8) < l3) → True) ∧ ((¬ ((Int32.ofNat L) - 8) < l3) → vp_in l3 L ∧ (((xs l3.toNatClampNeg) &&& 63) = 0 → jL_law_184 X b L xs rc rs l1 l2 l3 w) ∧ (((xs l3.toNatClampNeg) &&& 63) = 1 → jL_law_207 X b L xs rc rs l1 l2 l3 w) ∧ (((xs l3.toNatClampNeg) &&& 63) = 2 → jL_law_240 X b L xs rc rs l1 l2 l3 w) ∧ (((xs l3.toNatClampNeg) &&& 63) = 3 → jL_law_263 X b L xs rc rs l1 l2 l3 w) ∧ (((xs l3.toNatClampNeg) &&& 63) = 4 → jL_law_286 X b L xs rc rs l1 l2 l3 w) ∧ (((xs l3.toNatClampNeg) &&& 63) = 5 → jL_law_413 X b L xs rc rs l1 l2 l3 w) ∧ (((xs l3.toNatClampNeg) &&& 63) = 6 → jL_law_456 X b L xs rc rs l1 l2 l3 w) ∧ (((xs l3.toNatClampNeg) &&& 63) = 7 → jL_law_519 X b L xs rc rs l1 l2 l3 w) ∧ (((xs l3.toNatClampNeg) &&& 63) = 8 → jL_law_583 X b L xs rc rs l1 l2 l3 w) ∧ (((xs l3.toNatClampNeg) &&& 63) = 9 → jL_law_632 X b L xs rc rs l1 l2 l3 w) ∧ (((xs l3.toNatClampNeg) &&& 63) = 10 → jL_law_695 X b L xs rc rs l1 l2 l3 w) ∧ (((xs l3.toNatClampNeg) &&& 63) = 11 → jL_law_768 X b L xs rc rs l1 l2 l3 w) ∧ (((xs l3.toNatClampNeg) &&& 63) = 12 → jL_law_841 X b L xs rc rs l1 l2 l3 w) ∧ (((xs l3.toNatClampNeg) &&& 63) = 13 → jL_law_864 X b L xs rc rs l1 l2 l3 w) ∧ (((xs l3.toNatClampNeg) &&& 63) = 14 → jL_law_897 X b L xs rc rs l1 l2 l3 w) ∧ (((xs l3.toNatClampNeg) &&& 63) = 15 → jL_law_920 X b L xs rc rs l1 l2 l3 w) ∧ (((xs l3.toNatClampNeg) &&& 63) = 16 → jL_law_953 X b L xs rc rs l1 l2 l3 w) ∧ (((xs l3.toNatClampNeg) &&& 63) = 17 → jL_law_986 X b L xs rc rs l1 l2 l3 w) ∧ (((xs l3.toNatClampNeg) &&& 63) = 18 → jL_law_1029 X b L xs rc rs l1 l2 l3 w) ∧ (((xs l3.toNatClampNeg) &&& 63) = 19 → jL_law_1062 X b L xs rc rs l1 l2 l3 w) ∧ (((xs l3.toNatClampNeg) &&& 63) = 20 → jL_law_1095 X b L xs rc rs l1 l2 l3 w) ∧ (((xs l3.toNatClampNeg) &&& 63) = 21 → jL_law_1148 X b L xs rc rs l1 l2 l3 w) ∧ (((xs l3.toNatClampNeg) &&& 63) = 22 → jL_law_1171 X b L xs rc rs l1 l2 l3 w) ∧ (((xs l3.toNatClampNeg) &&& 63) = 23 → jL_law_1287 X b L xs rc rs l1 l2 l3 w) ∧ (((xs l3.toNatClampNeg) &&& 63) = 24 → jL_law_1403 X b L xs rc rs l1 l2 l3 w) ∧ (((xs l3.toNatClampNeg) &&& 63) = 25 → jL_law_1427 X b L xs rc rs l1 l2 l3 w) ∧ (((xs l3.toNatClampNeg) &&& 63) = 26 → jL_law_1490 X b L xs rc rs l1 l2 l3 w) ∧ (((xs l3.toNatClampNeg) &&& 63) = 27 → jL_law_1543 X b L xs rc rs l1 l2 l3 w) ∧ (((xs l3.toNatClampNeg) &&& 63) = 28 → jL_law_1566 X b L xs rc rs l1 l2 l3 w) ∧ (((xs l3.toNatClampNeg) &&& 63) = 29 → jL_law_1590 X b L xs rc rs l1 l2 l3 w) ∧ (((xs l3.toNatClampNeg) &&& 63) = 30 → jL_law_1623 X b L xs rc rs l1 l2 l3 w) ∧ (((xs l3.toNatClampNeg) &&& 63) = 31 → jL_law_1647 X b L xs rc rs l1 l2 l3 w) ∧ (((xs l3.toNatClampNeg) &&& 63) = 32 → jL_law_1671 X b L xs rc rs l1 l2 l3 w) ∧ (((xs l3.toNatClampNeg) &&& 63) = 33 → jL_law_1684 X b L xs rc rs l1 l2 l3 w) ∧ (¬ ((xs l3.toNatClampNeg) &&& 63) = 0 → ¬ ((xs l3.toNatClampNeg) &&& 63) = 1 → ¬ ((xs l3.toNatClampNeg) &&& 63) = 2 → ¬ ((xs l3.toNatClampNeg) &&& 63) = 3 → ¬ ((xs l3.toNatClampNeg) &&& 63) = 4 → ¬ ((xs l3.toNatClampNeg) &&& 63) = 5 → ¬ ((xs l3.toNatClampNeg) &&& 63) = 6 → ¬ ((xs l3.toNatClampNeg) &&& 63) = 7 → ¬ ((xs l3.toNatClampNeg) &&& 63) = 8 → ¬ ((xs l3.toNatClampNeg) &&& 63) = 9 → ¬ ((xs l3.toNatClampNeg) &&& 63) = 10 → ¬ ((xs l3.toNatClampNeg) &&& 63) = 11 → ¬ ((xs l3.toNatClampNeg) &&& 63) = 12 → ¬ ((xs l3.toNatClampNeg) &&& 63) = 13 → ¬ ((xs l3.toNatClampNeg) &&& 63) = 14 → ¬ ((xs l3.toNatClampNeg) &&& 63) = 15 → ¬ ((xs l3.toNatClampNeg) &&& 63) = 16 → ¬ ((xs l3.toNatClampNeg) &&& 63) = 17 → ¬ ((xs l3.toNatClampNeg) &&& 63) = 18 → ¬ ((xs l3.toNatClampNeg) &&& 63) = 19 → ¬ ((xs l3.toNatClampNeg) &&& 63) = 20 → ¬ ((xs l3.toNatClampNeg) &&& 63) = 21 → ¬ ((xs l3.toNatClampNeg) &&& 63) = 22 → ¬ ((xs l3.toNatClampNeg) &&& 63) = 23 → ¬ ((xs l3.toNatClampNeg) &&& 63) = 24 → ¬ ((xs l3.toNatClampNeg) &&& 63) = 25 → ¬ ((xs l3.toNatClampNeg) &&& 63) = 26 → ¬ ((xs l3.toNatClampNeg) &&& 63) = 27 → ¬ ((xs l3.toNatClampNeg) &&& 63) = 28 → ¬ ((xs l3.toNatClampNeg) &&& 63) = 29 → ¬ ((xs l3.toNatClampNeg) &&& 63) = 30 → ¬ ((xs l3.toNatClampNeg) &&& 63) = 31 → ¬ ((xs l3.toNatClampNeg) &&& 63) = 32 → ¬ ((xs l3.toNatClampNeg) &&& 63) = 33 → jL_law_1707 X b L xs rc rs l1 l2 l3 w))) :
    jL_law_18 X b L xs rc rs l1 l2 l3 w := by
  refine e_iload_n (pc := 18) (i := 3) dL_law_18 rfl rfl ?_
  refine e_aload_n (pc := 19) (i := 0) dL_law_19 rfl rfl ?_
  refine l_slen (pc := 20) dL_law_20 ?_
  refine e_bipush (pc := 21) (v := 8) dL_law_21 (by decide) ?_
  refine e_isub (pc := 23) dL_law_23 ?_
  refine e_icmp_gt (pc := 24) (tgt := 1713) dL_law_24 (by decide) (fun h1 => ?_) (fun h1 => ?_)
  · replace hv := hv.1 h1
    refine e_iconst (pc := 1713) (v := 1) dL_law_1713 (by decide) ?_
    exact l_ret (pc := 1714) dL_law_1714
  · replace hv := hv.2 h1
    refine e_aload_n (pc := 27) (i := 0) dL_law_27 rfl rfl ?_
    refine e_iload_n (pc := 28) (i := 3) dL_law_28 rfl rfl ?_
    have hi2 := hv.1
    replace hv := hv.2
    refine l_sld (pc := 29) dL_law_29 hi2 ?_
    refine e_bipush (pc := 30) (v := 63) dL_law_30 (by decide) ?_
    refine e_iand (pc := 32) dL_law_32 ?_
    by_cases h3 : ((xs l3.toNatClampNeg) &&& 63) = 0
    · replace hv := hv.1 h3
      refine e_tableK (pc := 33) (tgt := 184) (c := 0) (off := 151) dL_law_33 h3 (by decide) (by decide) (by decide) (by decide) ?_
      exact hv
    replace hv := hv.2
    by_cases h4 : ((xs l3.toNatClampNeg) &&& 63) = 1
    · replace hv := hv.1 h4
      refine e_tableK (pc := 33) (tgt := 207) (c := 1) (off := 174) dL_law_33 h4 (by decide) (by decide) (by decide) (by decide) ?_
      exact hv
    replace hv := hv.2
    by_cases h5 : ((xs l3.toNatClampNeg) &&& 63) = 2
    · replace hv := hv.1 h5
      refine e_tableK (pc := 33) (tgt := 240) (c := 2) (off := 207) dL_law_33 h5 (by decide) (by decide) (by decide) (by decide) ?_
      exact hv
    replace hv := hv.2
    by_cases h6 : ((xs l3.toNatClampNeg) &&& 63) = 3
    · replace hv := hv.1 h6
      refine e_tableK (pc := 33) (tgt := 263) (c := 3) (off := 230) dL_law_33 h6 (by decide) (by decide) (by decide) (by decide) ?_
      exact hv
    replace hv := hv.2
    by_cases h7 : ((xs l3.toNatClampNeg) &&& 63) = 4
    · replace hv := hv.1 h7
      refine e_tableK (pc := 33) (tgt := 286) (c := 4) (off := 253) dL_law_33 h7 (by decide) (by decide) (by decide) (by decide) ?_
      exact hv
    replace hv := hv.2
    by_cases h8 : ((xs l3.toNatClampNeg) &&& 63) = 5
    · replace hv := hv.1 h8
      refine e_tableK (pc := 33) (tgt := 413) (c := 5) (off := 380) dL_law_33 h8 (by decide) (by decide) (by decide) (by decide) ?_
      exact hv
    replace hv := hv.2
    by_cases h9 : ((xs l3.toNatClampNeg) &&& 63) = 6
    · replace hv := hv.1 h9
      refine e_tableK (pc := 33) (tgt := 456) (c := 6) (off := 423) dL_law_33 h9 (by decide) (by decide) (by decide) (by decide) ?_
      exact hv
    replace hv := hv.2
    by_cases h10 : ((xs l3.toNatClampNeg) &&& 63) = 7
    · replace hv := hv.1 h10
      refine e_tableK (pc := 33) (tgt := 519) (c := 7) (off := 486) dL_law_33 h10 (by decide) (by decide) (by decide) (by decide) ?_
      exact hv
    replace hv := hv.2
    by_cases h11 : ((xs l3.toNatClampNeg) &&& 63) = 8
    · replace hv := hv.1 h11
      refine e_tableK (pc := 33) (tgt := 583) (c := 8) (off := 550) dL_law_33 h11 (by decide) (by decide) (by decide) (by decide) ?_
      exact hv
    replace hv := hv.2
    by_cases h12 : ((xs l3.toNatClampNeg) &&& 63) = 9
    · replace hv := hv.1 h12
      refine e_tableK (pc := 33) (tgt := 632) (c := 9) (off := 599) dL_law_33 h12 (by decide) (by decide) (by decide) (by decide) ?_
      exact hv
    replace hv := hv.2
    by_cases h13 : ((xs l3.toNatClampNeg) &&& 63) = 10
    · replace hv := hv.1 h13
      refine e_tableK (pc := 33) (tgt := 695) (c := 10) (off := 662) dL_law_33 h13 (by decide) (by decide) (by decide) (by decide) ?_
      exact hv
    replace hv := hv.2
    by_cases h14 : ((xs l3.toNatClampNeg) &&& 63) = 11
    · replace hv := hv.1 h14
      refine e_tableK (pc := 33) (tgt := 768) (c := 11) (off := 735) dL_law_33 h14 (by decide) (by decide) (by decide) (by decide) ?_
      exact hv
    replace hv := hv.2
    by_cases h15 : ((xs l3.toNatClampNeg) &&& 63) = 12
    · replace hv := hv.1 h15
      refine e_tableK (pc := 33) (tgt := 841) (c := 12) (off := 808) dL_law_33 h15 (by decide) (by decide) (by decide) (by decide) ?_
      exact hv
    replace hv := hv.2
    by_cases h16 : ((xs l3.toNatClampNeg) &&& 63) = 13
    · replace hv := hv.1 h16
      refine e_tableK (pc := 33) (tgt := 864) (c := 13) (off := 831) dL_law_33 h16 (by decide) (by decide) (by decide) (by decide) ?_
      exact hv
    replace hv := hv.2
    by_cases h17 : ((xs l3.toNatClampNeg) &&& 63) = 14
    · replace hv := hv.1 h17
      refine e_tableK (pc := 33) (tgt := 897) (c := 14) (off := 864) dL_law_33 h17 (by decide) (by decide) (by decide) (by decide) ?_
      exact hv
    replace hv := hv.2
    by_cases h18 : ((xs l3.toNatClampNeg) &&& 63) = 15
    · replace hv := hv.1 h18
      refine e_tableK (pc := 33) (tgt := 920) (c := 15) (off := 887) dL_law_33 h18 (by decide) (by decide) (by decide) (by decide) ?_
      exact hv
    replace hv := hv.2
    by_cases h19 : ((xs l3.toNatClampNeg) &&& 63) = 16
    · replace hv := hv.1 h19
      refine e_tableK (pc := 33) (tgt := 953) (c := 16) (off := 920) dL_law_33 h19 (by decide) (by decide) (by decide) (by decide) ?_
      exact hv
    replace hv := hv.2
    by_cases h20 : ((xs l3.toNatClampNeg) &&& 63) = 17
    · replace hv := hv.1 h20
      refine e_tableK (pc := 33) (tgt := 986) (c := 17) (off := 953) dL_law_33 h20 (by decide) (by decide) (by decide) (by decide) ?_
      exact hv
    replace hv := hv.2
    by_cases h21 : ((xs l3.toNatClampNeg) &&& 63) = 18
    · replace hv := hv.1 h21
      refine e_tableK (pc := 33) (tgt := 1029) (c := 18) (off := 996) dL_law_33 h21 (by decide) (by decide) (by decide) (by decide) ?_
      exact hv
    replace hv := hv.2
    by_cases h22 : ((xs l3.toNatClampNeg) &&& 63) = 19
    · replace hv := hv.1 h22
      refine e_tableK (pc := 33) (tgt := 1062) (c := 19) (off := 1029) dL_law_33 h22 (by decide) (by decide) (by decide) (by decide) ?_
      exact hv
    replace hv := hv.2
    by_cases h23 : ((xs l3.toNatClampNeg) &&& 63) = 20
    · replace hv := hv.1 h23
      refine e_tableK (pc := 33) (tgt := 1095) (c := 20) (off := 1062) dL_law_33 h23 (by decide) (by decide) (by decide) (by decide) ?_
      exact hv
    replace hv := hv.2
    by_cases h24 : ((xs l3.toNatClampNeg) &&& 63) = 21
    · replace hv := hv.1 h24
      refine e_tableK (pc := 33) (tgt := 1148) (c := 21) (off := 1115) dL_law_33 h24 (by decide) (by decide) (by decide) (by decide) ?_
      exact hv
    replace hv := hv.2
    by_cases h25 : ((xs l3.toNatClampNeg) &&& 63) = 22
    · replace hv := hv.1 h25
      refine e_tableK (pc := 33) (tgt := 1171) (c := 22) (off := 1138) dL_law_33 h25 (by decide) (by decide) (by decide) (by decide) ?_
      exact hv
    replace hv := hv.2
    by_cases h26 : ((xs l3.toNatClampNeg) &&& 63) = 23
    · replace hv := hv.1 h26
      refine e_tableK (pc := 33) (tgt := 1287) (c := 23) (off := 1254) dL_law_33 h26 (by decide) (by decide) (by decide) (by decide) ?_
      exact hv
    replace hv := hv.2
    by_cases h27 : ((xs l3.toNatClampNeg) &&& 63) = 24
    · replace hv := hv.1 h27
      refine e_tableK (pc := 33) (tgt := 1403) (c := 24) (off := 1370) dL_law_33 h27 (by decide) (by decide) (by decide) (by decide) ?_
      exact hv
    replace hv := hv.2
    by_cases h28 : ((xs l3.toNatClampNeg) &&& 63) = 25
    · replace hv := hv.1 h28
      refine e_tableK (pc := 33) (tgt := 1427) (c := 25) (off := 1394) dL_law_33 h28 (by decide) (by decide) (by decide) (by decide) ?_
      exact hv
    replace hv := hv.2
    by_cases h29 : ((xs l3.toNatClampNeg) &&& 63) = 26
    · replace hv := hv.1 h29
      refine e_tableK (pc := 33) (tgt := 1490) (c := 26) (off := 1457) dL_law_33 h29 (by decide) (by decide) (by decide) (by decide) ?_
      exact hv
    replace hv := hv.2
    by_cases h30 : ((xs l3.toNatClampNeg) &&& 63) = 27
    · replace hv := hv.1 h30
      refine e_tableK (pc := 33) (tgt := 1543) (c := 27) (off := 1510) dL_law_33 h30 (by decide) (by decide) (by decide) (by decide) ?_
      exact hv
    replace hv := hv.2
    by_cases h31 : ((xs l3.toNatClampNeg) &&& 63) = 28
    · replace hv := hv.1 h31
      refine e_tableK (pc := 33) (tgt := 1566) (c := 28) (off := 1533) dL_law_33 h31 (by decide) (by decide) (by decide) (by decide) ?_
      exact hv
    replace hv := hv.2
    by_cases h32 : ((xs l3.toNatClampNeg) &&& 63) = 29
    · replace hv := hv.1 h32
      refine e_tableK (pc := 33) (tgt := 1590) (c := 29) (off := 1557) dL_law_33 h32 (by decide) (by decide) (by decide) (by decide) ?_
      exact hv
    replace hv := hv.2
    by_cases h33 : ((xs l3.toNatClampNeg) &&& 63) = 30
    · replace hv := hv.1 h33
      refine e_tableK (pc := 33) (tgt := 1623) (c := 30) (off := 1590) dL_law_33 h33 (by decide) (by decide) (by decide) (by decide) ?_
      exact hv
    replace hv := hv.2
    by_cases h34 : ((xs l3.toNatClampNeg) &&& 63) = 31
    · replace hv := hv.1 h34
      refine e_tableK (pc := 33) (tgt := 1647) (c := 31) (off := 1614) dL_law_33 h34 (by decide) (by decide) (by decide) (by decide) ?_
      exact hv
    replace hv := hv.2
    by_cases h35 : ((xs l3.toNatClampNeg) &&& 63) = 32
    · replace hv := hv.1 h35
      refine e_tableK (pc := 33) (tgt := 1671) (c := 32) (off := 1638) dL_law_33 h35 (by decide) (by decide) (by decide) (by decide) ?_
      exact hv
    replace hv := hv.2
    by_cases h36 : ((xs l3.toNatClampNeg) &&& 63) = 33
    · replace hv := hv.1 h36
      refine e_tableK (pc := 33) (tgt := 1684) (c := 33) (off := 1651) dL_law_33 h36 (by decide) (by decide) (by decide) (by decide) ?_
      exact hv
    replace hv := hv.2
    replace hv := hv h3 h4 h5 h6 h7 h8 h9 h10 h11 h12 h13 h14 h15 h16 h17 h18 h19 h20 h21 h22 h23 h24 h25 h26 h27 h28 h29 h30 h31 h32 h33 h34 h35 h36
    refine e_tableOut (pc := 33) (tgt := 1707) dL_law_33 (by have z0 : ¬ ((xs l3.toNatClampNeg) &&& 63).toInt = 0 := lv_neT h3 (by decide); have z1 : ¬ ((xs l3.toNatClampNeg) &&& 63).toInt = 1 := lv_neT h4 (by decide); have z2 : ¬ ((xs l3.toNatClampNeg) &&& 63).toInt = 2 := lv_neT h5 (by decide); have z3 : ¬ ((xs l3.toNatClampNeg) &&& 63).toInt = 3 := lv_neT h6 (by decide); have z4 : ¬ ((xs l3.toNatClampNeg) &&& 63).toInt = 4 := lv_neT h7 (by decide); have z5 : ¬ ((xs l3.toNatClampNeg) &&& 63).toInt = 5 := lv_neT h8 (by decide); have z6 : ¬ ((xs l3.toNatClampNeg) &&& 63).toInt = 6 := lv_neT h9 (by decide); have z7 : ¬ ((xs l3.toNatClampNeg) &&& 63).toInt = 7 := lv_neT h10 (by decide); have z8 : ¬ ((xs l3.toNatClampNeg) &&& 63).toInt = 8 := lv_neT h11 (by decide); have z9 : ¬ ((xs l3.toNatClampNeg) &&& 63).toInt = 9 := lv_neT h12 (by decide); have z10 : ¬ ((xs l3.toNatClampNeg) &&& 63).toInt = 10 := lv_neT h13 (by decide); have z11 : ¬ ((xs l3.toNatClampNeg) &&& 63).toInt = 11 := lv_neT h14 (by decide); have z12 : ¬ ((xs l3.toNatClampNeg) &&& 63).toInt = 12 := lv_neT h15 (by decide); have z13 : ¬ ((xs l3.toNatClampNeg) &&& 63).toInt = 13 := lv_neT h16 (by decide); have z14 : ¬ ((xs l3.toNatClampNeg) &&& 63).toInt = 14 := lv_neT h17 (by decide); have z15 : ¬ ((xs l3.toNatClampNeg) &&& 63).toInt = 15 := lv_neT h18 (by decide); have z16 : ¬ ((xs l3.toNatClampNeg) &&& 63).toInt = 16 := lv_neT h19 (by decide); have z17 : ¬ ((xs l3.toNatClampNeg) &&& 63).toInt = 17 := lv_neT h20 (by decide); have z18 : ¬ ((xs l3.toNatClampNeg) &&& 63).toInt = 18 := lv_neT h21 (by decide); have z19 : ¬ ((xs l3.toNatClampNeg) &&& 63).toInt = 19 := lv_neT h22 (by decide); have z20 : ¬ ((xs l3.toNatClampNeg) &&& 63).toInt = 20 := lv_neT h23 (by decide); have z21 : ¬ ((xs l3.toNatClampNeg) &&& 63).toInt = 21 := lv_neT h24 (by decide); have z22 : ¬ ((xs l3.toNatClampNeg) &&& 63).toInt = 22 := lv_neT h25 (by decide); have z23 : ¬ ((xs l3.toNatClampNeg) &&& 63).toInt = 23 := lv_neT h26 (by decide); have z24 : ¬ ((xs l3.toNatClampNeg) &&& 63).toInt = 24 := lv_neT h27 (by decide); have z25 : ¬ ((xs l3.toNatClampNeg) &&& 63).toInt = 25 := lv_neT h28 (by decide); have z26 : ¬ ((xs l3.toNatClampNeg) &&& 63).toInt = 26 := lv_neT h29 (by decide); have z27 : ¬ ((xs l3.toNatClampNeg) &&& 63).toInt = 27 := lv_neT h30 (by decide); have z28 : ¬ ((xs l3.toNatClampNeg) &&& 63).toInt = 28 := lv_neT h31 (by decide); have z29 : ¬ ((xs l3.toNatClampNeg) &&& 63).toInt = 29 := lv_neT h32 (by decide); have z30 : ¬ ((xs l3.toNatClampNeg) &&& 63).toInt = 30 := lv_neT h33 (by decide); have z31 : ¬ ((xs l3.toNatClampNeg) &&& 63).toInt = 31 := lv_neT h34 (by decide); have z32 : ¬ ((xs l3.toNatClampNeg) &&& 63).toInt = 32 := lv_neT h35 (by decide); have z33 : ¬ ((xs l3.toNatClampNeg) &&& 63).toInt = 33 := lv_neT h36 (by decide); omega) (by decide) ?_
    exact hv
set_option maxRecDepth 100000 in
set_option maxHeartbeats 4000000 in
theorem tL_law_0 (X : Cx) (b L : Nat) (xs : Nat → Int32) (rc rs : Nat) (w : Wd)
    (hv : ∃ rc3 rs4 : Nat, (rc = rc3 + 1 ∧ rs = rs4 + 14) ∧ ∀ q1 : Nat, wK w q1 = 0 → q1 ≠ 0 → ∀ w2 : Wd, w2 = nO w 10 q1 → ∃ rc6 rs7 : Nat, (rc3 = rc6 + 5 ∧ rs4 = rs7 + 446) ∧ Ct X bX10_init mX10_init [vR q1] w2 (qV fun w9 => ∃ rc13 rs14 : Nat, (rc6 = rc13 + 1 ∧ rs7 = rs14 + 65) ∧ ∀ q11 : Nat, wK w9 q11 = 0 → q11 ≠ 0 → ∀ w12 : Wd, w12 = nO w9 11 q11 → ∃ rc16 rs17 : Nat, (rc13 = rc16 + 49 ∧ rs14 = rs17 + 51307) ∧ Ct X bX11_init mX11_init [vR q11] w12 (qV fun w19 => jL_law_18 X b L xs rc16 rs17 q1 q11 0 w19))) :
    EJ X mL_law (lawV b L xs X.2.2.2) rc rs 0 [(0, vR (b + 1))] [] w := by
  obtain ⟨rc3, rs4, hr5, hv⟩ := hv
  refine e_new (pc := 0) (ci := 10) (rc' := rc3) (rs' := rs4) dL_law_0 (by decide) (tb_a1 14 (by decide +kernel) rfl) dv10 hr5.1 hr5.2 (fun q1 hq1 nq1 => ?_)
  obtain ⟨w2, hw2⟩ : ∃ w2 : Wd, w2 = nO w 10 q1 := ⟨_, rfl⟩
  replace hv := hv q1 hq1 nq1 w2 hw2
  rw [← hw2]
  refine e_dup (pc := 3) dL_law_3 rfl ?_
  obtain ⟨rc6, rs7, hr8, hv⟩ := hv
  refine e_callIv (pc := 4) (st := [vR q1]) (rc' := rc6) (rs' := rs7) (B' := bX10_init) [] dL_law_4 vRL_9 kX10_init rfl rfl (K_ne (by rw [hw2]; exact nO_new)) rfl rfl (Nat.le_of_ble_eq_true rfl) ⟨Nat.le_of_ble_eq_true rfl, Nat.le_of_ble_eq_true rfl⟩ hr8.1 hr8.2 hv (fun w9 hv => ?_)
  refine e_astore_n (pc := 7) (i := 1) (lv' := [(0, vR (b + 1)), (1, vR q1)]) dL_law_7 rfl (by decide) rfl ?_
  obtain ⟨rc13, rs14, hr15, hv⟩ := hv
  refine e_new (pc := 8) (ci := 11) (rc' := rc13) (rs' := rs14) dL_law_8 (by decide) (tb_a4 147 (by decide +kernel) rfl) dv11 hr15.1 hr15.2 (fun q11 hq11 nq11 => ?_)
  obtain ⟨w12, hw12⟩ : ∃ w12 : Wd, w12 = nO w9 11 q11 := ⟨_, rfl⟩
  replace hv := hv q11 hq11 nq11 w12 hw12
  rw [← hw12]
  refine e_dup (pc := 11) dL_law_11 rfl ?_
  obtain ⟨rc16, rs17, hr18, hv⟩ := hv
  refine e_callIv (pc := 12) (st := [vR q11]) (rc' := rc16) (rs' := rs17) (B' := bX11_init) [] dL_law_12 vRL_12 kX11_init rfl rfl (K_ne (by rw [hw12]; exact nO_new)) rfl rfl (Nat.le_of_ble_eq_true rfl) ⟨Nat.le_of_ble_eq_true rfl, Nat.le_of_ble_eq_true rfl⟩ hr18.1 hr18.2 hv (fun w19 hv => ?_)
  refine e_astore_n (pc := 15) (i := 2) (lv' := [(0, vR (b + 1)), (1, vR q1), (2, vR q11)]) dL_law_15 rfl (by decide) rfl ?_
  refine e_iconst (pc := 16) (v := 0) dL_law_16 (by decide) ?_
  refine e_istore_n (pc := 17) (i := 3) (lv' := [(0, vR (b + 1)), (1, vR q1), (2, vR q11), (3, vI 0)]) dL_law_17 rfl (by decide) rfl ?_
  exact hv
