/-! ===== the start ===== -/
/-- the reference half made: S its fields that stand, s its numbers; V the world before it -/
def NI (V : Wd) (m : Nat) (s : Nat → Int32) (S : List Nat) (w : Wd) : Prop := Ag V w ∧ wK V m = 0 ∧ wK w m = 12 ∧ wK w 0 = 0 ∧ (∀ k, wI w 11 k m = s k) ∧ wJ w 11 64 m = 0 ∧
  (∀ k, k ∈ S → wK w (wR w 11 k m) = kA k ∧ wL w (wR w 11 k m) = lenA k ∧ (∀ i, xI w (wR w 11 k m) i = 0 ∧ xJ w (wR w 11 k m) i = 0) ∧ wK V (wR w 11 k m) = 0) ∧ ∀ j k, j ∈ S → k ∈ S → wR w 11 j m = wR w 11 k m → j = k
section N1
variable {V w : Wd} {m : Nat} {s : Nat → Int32} {S : List Nat}
theorem NI.f (h : NI V m s S w) (hS : ∀ k, k ∈ S → kA k ≠ 0) {q : Nat} (hq : wK w q = 0) (q0 : q ≠ 0) (k t n : Nat) (hk : k ∉ S) (ht : kA k = t) (hn : lenA k = n) : NI V m s (k :: S) (sR (nA w t q n) 11 k m q) := by
  obtain ⟨h1, h2, h3, h4, h5, h6, h7, h8⟩ := h
  have hmq : m ≠ q := fun e => by rw [e, hq] at h3; cases h3
  have hVq : wK V q = 0 := by
    rcases Nat.eq_zero_or_pos (wK V q) with z | z
    · exact z
    · exfalso; have := (h1 q (by omega)).1; omega
  have K : ∀ a, wK (sR (nA w t q n) 11 k m q) a = if a = q then t else wK w a := (S_nA w t q n).2.2.2.1
  have L : ∀ a, wL (sR (nA w t q n) 11 k m q) a = if a = q then n else wL w a := (S_nA w t q n).2.2.2.2.1
  have xi : ∀ a i, xI (sR (nA w t q n) 11 k m q) a i = if a = q then 0 else xI w a i := (S_nA w t q n).2.2.2.2.2.1
  have xj : ∀ a i, xJ (sR (nA w t q n) 11 k m q) a i = if a = q then 0 else xJ w a i := (S_nA w t q n).2.2.2.2.2.2.1
  have R : ∀ j, wR (sR (nA w t q n) 11 k m q) 11 j m = if j = k then q else wR w 11 j m := fun j => by
    rw [(S_sR (nA w t q n) 11 k m q).2.2.2.2.2.2.2]
    by_cases hj : j = k
    · rw [if_pos ⟨rfl, hj, rfl⟩, if_pos hj]
    · rw [if_neg (fun z => hj z.2.1), if_neg hj]; rfl
  have ne : ∀ j, j ∈ S → wR w 11 j m ≠ q := fun j hj e => by
    have := (h7 j hj).1
    rw [e, hq] at this
    exact hS j hj this.symm
  have nk : ∀ j, j ∈ S → j ≠ k := fun j hj e => hk (by rw [← e]; exact hj)
  refine ⟨(h1.tr (Ag.nA t q n hq)).sR 11 k m q h2, h2, ?_, ?_, h5, h6, fun j hj => ?_, fun i j hi hj e => ?_⟩
  · rw [K, if_neg hmq]; exact h3
  · rw [K, if_neg (fun e => q0 e.symm)]; exact h4
  · rw [R]
    rcases List.mem_cons.mp hj with e | e
    · rw [if_pos e, K, if_pos rfl, L, if_pos rfl, e]
      refine ⟨ht.symm, hn.symm, fun i => ?_, hVq⟩
      rw [xi, xj, if_pos rfl, if_pos rfl]; exact ⟨rfl, rfl⟩
    · rw [if_neg (nk j e), K, if_neg (ne j e), L, if_neg (ne j e)]
      obtain ⟨a, b, c, d⟩ := h7 j e
      refine ⟨a, b, fun i => ?_, d⟩
      rw [xi, xj, if_neg (ne j e), if_neg (ne j e)]; exact c i
  · rw [R, R] at e
    rcases List.mem_cons.mp hi with p | p <;> rcases List.mem_cons.mp hj with p' | p'
    · rw [p, p']
    · rw [if_pos p, if_neg (nk j p')] at e; exact absurd e.symm (ne j p')
    · rw [if_neg (nk i p), if_pos p'] at e; exact absurd e (ne i p)
    · rw [if_neg (nk i p), if_neg (nk j p')] at e; exact h8 i j p p' e
theorem NI.i (h : NI V m s S w) (k : Nat) (v : Int32) : NI V m (fun j => if j = k then v else s j) S (sI w 11 k m v) := by
  obtain ⟨h1, h2, h3, h4, h5, h6, h7, h8⟩ := h
  refine ⟨h1.sI 11 k m v h2, h2, h3, h4, fun j => ?_, h6, h7, h8⟩
  rw [(S_sI w 11 k m v).2.2.2.2.2.2.2]
  show _ = if j = k then v else s j
  by_cases hj : j = k
  · rw [if_pos ⟨rfl, hj, rfl⟩, if_pos hj]
  · rw [if_neg (fun z => hj z.2.1), if_neg hj]; exact h5 j
end N1
/-- the reference's fields of rows, the last made first -/
def rowsX : List Nat := [63, 62, 61, 60, 59, 56, 55, 54, 53, 51, 50, 49, 47, 37, 36, 35, 34, 33, 32, 31, 29, 28, 27, 26, 25, 24, 23, 22, 21, 20, 19, 18, 17, 16, 15, 14, 13, 12, 11, 10, 9, 8, 7, 6, 5, 4, 3, 1, 0]
theorem rowsX_all : ∀ k, k < 65 → kA k ≠ 0 → k ∈ rowsX := by decide
theorem rowsX_ok : ∀ k, k ∈ rowsX → kA k ≠ 0 ∧ k < 65 := by decide
def s00 : Nat → Int32 := fun j => if j = 40 then -1 else 0
set_option maxRecDepth 100000 in
set_option maxHeartbeats 4000000 in
theorem c_init11 {X : Cx} (V : Wd) (hz : wK V 0 = 0) (q : Nat) (hq : wK V q = 0) (q0 : q ≠ 0) : Ct X bX11_init mX11_init [vR q] (nO V 11 q) (qV fun w' => NI V q s00 rowsX w') := by
  have a0 : NI V q (fun _ => 0) [] (nO V 11 q) := by
    refine ⟨Ag.nO 11 q hq, hq, nO_new, ?_, fun k => ?_, ?_, fun k hk => (by cases hk), fun j k hj => (by cases hj)⟩
    · rw [(S_nO V 11 q).2.2.2.2.1, if_neg (fun e => q0 e.symm)]; exact hz
    · rw [(S_nO V 11 q).2.2.2.2.2.1, if_pos rfl]
    · rw [(S_nO V 11 q).2.2.2.2.2.2.1, if_pos rfl]
  refine oX11_init X _ q _ ⟨by rw [nO_new]; decide, ?_⟩
  intro q1 z1 y1 u1 e1
  have a1 := a0.f (by decide) z1 y1 0 13 40 (by decide) rfl rfl
  refine ⟨by rw [e1]; exact (Ag.nA 13 q1 40 z1 q (by rw [nO_new]; decide)).1.trans nO_new, ?_⟩
  intro v1 f1
  rw [e1] at f1
  rw [← f1] at a1
  clear f1 e1 a0 z1
  intro q2 z2 y2 u2 e2 v2 f2
  have a2 := a1.f (by decide) z2 y2 1 15 2400 (by decide) rfl rfl
  rw [e2] at f2
  rw [← f2] at a2
  clear f2 e2 a1 z2
  intro q3 z3 y3 u3 e3 v3 f3
  have a3 := a2.f (by decide) z3 y3 3 13 301 (by decide) rfl rfl
  rw [e3] at f3
  rw [← f3] at a3
  clear f3 e3 a2 z3
  intro q4 z4 y4 u4 e4 v4 f4
  have a4 := a3.f (by decide) z4 y4 4 13 301 (by decide) rfl rfl
  rw [e4] at f4
  rw [← f4] at a4
  clear f4 e4 a3 z4
  intro q5 z5 y5 u5 e5 v5 f5
  have a5 := a4.f (by decide) z5 y5 5 13 301 (by decide) rfl rfl
  rw [e5] at f5
  rw [← f5] at a5
  clear f5 e5 a4 z5
  intro q6 z6 y6 u6 e6 v6 f6
  have a6 := a5.f (by decide) z6 y6 6 13 301 (by decide) rfl rfl
  rw [e6] at f6
  rw [← f6] at a6
  clear f6 e6 a5 z6
  intro q7 z7 y7 u7 e7 v7 f7
  have a7 := a6.f (by decide) z7 y7 7 13 301 (by decide) rfl rfl
  rw [e7] at f7
  rw [← f7] at a7
  clear f7 e7 a6 z7
  intro q8 z8 y8 u8 e8 v8 f8
  have a8 := a7.f (by decide) z8 y8 8 14 301 (by decide) rfl rfl
  rw [e8] at f8
  rw [← f8] at a8
  clear f8 e8 a7 z8
  intro q9 z9 y9 u9 e9 v9 f9
  have a9 := a8.f (by decide) z9 y9 9 13 301 (by decide) rfl rfl
  rw [e9] at f9
  rw [← f9] at a9
  clear f9 e9 a8 z9
  intro q10 z10 y10 u10 e10 v10 f10
  have a10 := a9.f (by decide) z10 y10 10 14 301 (by decide) rfl rfl
  rw [e10] at f10
  rw [← f10] at a10
  clear f10 e10 a9 z10
  intro q11 z11 y11 u11 e11 v11 f11
  have a11 := a10.f (by decide) z11 y11 11 13 301 (by decide) rfl rfl
  rw [e11] at f11
  rw [← f11] at a11
  clear f11 e11 a10 z11
  intro q12 z12 y12 u12 e12 v12 f12
  have a12 := a11.f (by decide) z12 y12 12 14 301 (by decide) rfl rfl
  rw [e12] at f12
  rw [← f12] at a12
  clear f12 e12 a11 z12
  intro q13 z13 y13 u13 e13 v13 f13
  have a13 := a12.f (by decide) z13 y13 13 13 301 (by decide) rfl rfl
  rw [e13] at f13
  rw [← f13] at a13
  clear f13 e13 a12 z13
  intro q14 z14 y14 u14 e14 v14 f14
  have a14 := a13.f (by decide) z14 y14 14 13 301 (by decide) rfl rfl
  rw [e14] at f14
  rw [← f14] at a14
  clear f14 e14 a13 z14
  intro q15 z15 y15 u15 e15 v15 f15
  have a15 := a14.f (by decide) z15 y15 15 13 301 (by decide) rfl rfl
  rw [e15] at f15
  rw [← f15] at a15
  clear f15 e15 a14 z15
  intro q16 z16 y16 u16 e16 v16 f16
  have a16 := a15.f (by decide) z16 y16 16 13 301 (by decide) rfl rfl
  rw [e16] at f16
  rw [← f16] at a16
  clear f16 e16 a15 z16
  intro q17 z17 y17 u17 e17 v17 f17
  have a17 := a16.f (by decide) z17 y17 17 13 301 (by decide) rfl rfl
  rw [e17] at f17
  rw [← f17] at a17
  clear f17 e17 a16 z17
  intro q18 z18 y18 u18 e18 v18 f18
  have a18 := a17.f (by decide) z18 y18 18 15 301 (by decide) rfl rfl
  rw [e18] at f18
  rw [← f18] at a18
  clear f18 e18 a17 z18
  intro q19 z19 y19 u19 e19 v19 f19
  have a19 := a18.f (by decide) z19 y19 19 15 301 (by decide) rfl rfl
  rw [e19] at f19
  rw [← f19] at a19
  clear f19 e19 a18 z19
  intro q20 z20 y20 u20 e20 v20 f20
  have a20 := a19.f (by decide) z20 y20 20 13 301 (by decide) rfl rfl
  rw [e20] at f20
  rw [← f20] at a20
  clear f20 e20 a19 z20
  intro q21 z21 y21 u21 e21 v21 f21
  have a21 := a20.f (by decide) z21 y21 21 13 301 (by decide) rfl rfl
  rw [e21] at f21
  rw [← f21] at a21
  clear f21 e21 a20 z21
  intro q22 z22 y22 u22 e22 v22 f22
  have a22 := a21.f (by decide) z22 y22 22 13 301 (by decide) rfl rfl
  rw [e22] at f22
  rw [← f22] at a22
  clear f22 e22 a21 z22
  intro q23 z23 y23 u23 e23 v23 f23
  have a23 := a22.f (by decide) z23 y23 23 13 301 (by decide) rfl rfl
  rw [e23] at f23
  rw [← f23] at a23
  clear f23 e23 a22 z23
  intro q24 z24 y24 u24 e24 v24 f24
  have a24 := a23.f (by decide) z24 y24 24 13 301 (by decide) rfl rfl
  rw [e24] at f24
  rw [← f24] at a24
  clear f24 e24 a23 z24
  intro q25 z25 y25 u25 e25 v25 f25
  have a25 := a24.f (by decide) z25 y25 25 13 301 (by decide) rfl rfl
  rw [e25] at f25
  rw [← f25] at a25
  clear f25 e25 a24 z25
  intro q26 z26 y26 u26 e26 v26 f26
  have a26 := a25.f (by decide) z26 y26 26 13 301 (by decide) rfl rfl
  rw [e26] at f26
  rw [← f26] at a26
  clear f26 e26 a25 z26
  intro q27 z27 y27 u27 e27 v27 f27
  have a27 := a26.f (by decide) z27 y27 27 13 301 (by decide) rfl rfl
  rw [e27] at f27
  rw [← f27] at a27
  clear f27 e27 a26 z27
  intro q28 z28 y28 u28 e28 v28 f28
  have a28 := a27.f (by decide) z28 y28 28 13 18060 (by decide) rfl rfl
  rw [e28] at f28
  rw [← f28] at a28
  clear f28 e28 a27 z28
  intro q29 z29 y29 u29 e29 v29 f29
  have a29 := a28.f (by decide) z29 y29 29 13 18060 (by decide) rfl rfl
  rw [e29] at f29
  rw [← f29] at a29
  clear f29 e29 a28 z29
  intro q30 z30 y30 u30 e30 v30 f30
  have a30 := a29.f (by decide) z30 y30 31 13 101 (by decide) rfl rfl
  rw [e30] at f30
  rw [← f30] at a30
  clear f30 e30 a29 z30
  intro q31 z31 y31 u31 e31 v31 f31
  have a31 := a30.f (by decide) z31 y31 32 13 101 (by decide) rfl rfl
  rw [e31] at f31
  rw [← f31] at a31
  clear f31 e31 a30 z31
  intro q32 z32 y32 u32 e32 v32 f32
  have a32 := a31.f (by decide) z32 y32 33 14 101 (by decide) rfl rfl
  rw [e32] at f32
  rw [← f32] at a32
  clear f32 e32 a31 z32
  intro q33 z33 y33 u33 e33 v33 f33
  have a33 := a32.f (by decide) z33 y33 34 13 101 (by decide) rfl rfl
  rw [e33] at f33
  rw [← f33] at a33
  clear f33 e33 a32 z33
  intro q34 z34 y34 u34 e34 v34 f34
  have a34 := a33.f (by decide) z34 y34 35 13 101 (by decide) rfl rfl
  rw [e34] at f34
  rw [← f34] at a34
  clear f34 e34 a33 z34
  intro q35 z35 y35 u35 e35 v35 f35
  have a35 := a34.f (by decide) z35 y35 36 13 101 (by decide) rfl rfl
  rw [e35] at f35
  rw [← f35] at a35
  clear f35 e35 a34 z35
  intro q36 z36 y36 u36 e36 v36 f36
  have a36 := a35.f (by decide) z36 y36 37 13 101 (by decide) rfl rfl
  rw [e36] at f36
  rw [← f36] at a36
  clear f36 e36 a35 z36
  intro v37 f37
  have a37 := a36.i 40 (-1)
  rw [← f37] at a37
  clear f37 a36
  intro q38 z38 y38 u38 e38 v38 f38
  have a38 := a37.f (by decide) z38 y38 47 13 301 (by decide) rfl rfl
  rw [e38] at f38
  rw [← f38] at a38
  clear f38 e38 a37 z38
  intro q39 z39 y39 u39 e39 v39 f39
  have a39 := a38.f (by decide) z39 y39 49 14 301 (by decide) rfl rfl
  rw [e39] at f39
  rw [← f39] at a39
  clear f39 e39 a38 z39
  intro q40 z40 y40 u40 e40 v40 f40
  have a40 := a39.f (by decide) z40 y40 50 13 301 (by decide) rfl rfl
  rw [e40] at f40
  rw [← f40] at a40
  clear f40 e40 a39 z40
  intro q41 z41 y41 u41 e41 v41 f41
  have a41 := a40.f (by decide) z41 y41 51 13 301 (by decide) rfl rfl
  rw [e41] at f41
  rw [← f41] at a41
  clear f41 e41 a40 z41
  intro q42 z42 y42 u42 e42 v42 f42
  have a42 := a41.f (by decide) z42 y42 53 13 602 (by decide) rfl rfl
  rw [e42] at f42
  rw [← f42] at a42
  clear f42 e42 a41 z42
  intro q43 z43 y43 u43 e43 v43 f43
  have a43 := a42.f (by decide) z43 y43 54 15 602 (by decide) rfl rfl
  rw [e43] at f43
  rw [← f43] at a43
  clear f43 e43 a42 z43
  intro q44 z44 y44 u44 e44 v44 f44
  have a44 := a43.f (by decide) z44 y44 55 13 301 (by decide) rfl rfl
  rw [e44] at f44
  rw [← f44] at a44
  clear f44 e44 a43 z44
  intro q45 z45 y45 u45 e45 v45 f45
  have a45 := a44.f (by decide) z45 y45 56 13 301 (by decide) rfl rfl
  rw [e45] at f45
  rw [← f45] at a45
  clear f45 e45 a44 z45
  intro q46 z46 y46 u46 e46 v46 f46
  have a46 := a45.f (by decide) z46 y46 59 14 301 (by decide) rfl rfl
  rw [e46] at f46
  rw [← f46] at a46
  clear f46 e46 a45 z46
  intro q47 z47 y47 u47 e47 v47 f47
  have a47 := a46.f (by decide) z47 y47 60 14 301 (by decide) rfl rfl
  rw [e47] at f47
  rw [← f47] at a47
  clear f47 e47 a46 z47
  intro q48 z48 y48 u48 e48 v48 f48
  have a48 := a47.f (by decide) z48 y48 61 15 301 (by decide) rfl rfl
  rw [e48] at f48
  rw [← f48] at a48
  clear f48 e48 a47 z48
  intro q49 z49 y49 u49 e49 v49 f49
  have a49 := a48.f (by decide) z49 y49 62 14 301 (by decide) rfl rfl
  rw [e49] at f49
  rw [← f49] at a49
  clear f49 e49 a48 z49
  intro q50 z50 y50 u50 e50 v50 f50
  have a50 := a49.f (by decide) z50 y50 63 14 301 (by decide) rfl rfl
  rw [e50] at f50
  rw [← f50] at a50
  clear f50 e50 a49 z50
  exact a50
/-- the class as it is made -/
def CV (V : Wd) (x : Nat) : Prop := wK V 0 = 0 ∧ (wK V x = 11 ∧ wK V (wR V 10 0 x) = 18 ∧ wL V (wR V 10 0 x) = 40 ∧ wK V (wR V 10 1 x) = 17 ∧ wL V (wR V 10 1 x) = 300 ∧ wK V (wR V 10 2 x) = 2 ∧ wK V (wR V 10 8 x) = 5) ∧
  ((∀ k, wI V 10 k x = 0) ∧ wJ V 10 11 x = 0 ∧ wI V 4 0 (wR V 10 8 x) = 0 ∧ wI V 4 1 (wR V 10 8 x) = 0) ∧
  (wK V (wR V 1 0 (wR V 10 2 x)) = 13 ∧ wL V (wR V 1 0 (wR V 10 2 x)) = 101 ∧ wI V 1 2 (wR V 10 2 x) = 0 ∧ wI V 1 1 (wR V 10 2 x) = 0) ∧ wR V 10 6 x = 0 ∧ wR V 10 7 x = 0
theorem fr_ne {w : Wd} {q a c : Nat} (hq : wK w q = 0) (ha : wK w a = c + 1) : a ≠ q := fun e => by rw [e, hq] at ha; cases ha
set_option maxHeartbeats 4000000 in
theorem c_init10 {X : Cx} (x : Nat) (x0 : x ≠ 0) : Ct X bX10_init mX10_init [vR x] (nO w00 10 x) (qV fun V => CV V x) := by
  have k1 : wK (nO w00 10 x) x = 11 := nO_new
  refine oX10_init X _ x _ ⟨by rw [k1]; decide, ?_⟩
  rintro q2 h2 n2 w3 rfl
  have d2 := fr_ne h2 k1
  have k3 : wK (nA (nO w00 10 x) 18 q2 40) x = 11 := by rw [(S_nA _ 18 q2 40).2.2.2.1, if_neg d2]; exact k1
  refine ⟨k3, ?_⟩
  rintro w5 rfl q6 h6 n6 w7 rfl w9 rfl q10 h10 n10 w11 rfl
  have d6 : x ≠ q6 := fr_ne h6 k3
  have k32 : wK (nA (nO w00 10 x) 18 q2 40) q2 = 18 := nA_new
  have d62 : q2 ≠ q6 := fr_ne (c := 17) h6 k32
  have k7 : wK (nA (sR (nA (nO w00 10 x) 18 q2 40) 10 0 x q2) 17 q6 300) x = 11 := by rw [(S_nA _ 17 q6 300).2.2.2.1, if_neg d6]; exact k3
  have k72 : wK (nA (sR (nA (nO w00 10 x) 18 q2 40) 10 0 x q2) 17 q6 300) q2 = 18 := by rw [(S_nA _ 17 q6 300).2.2.2.1, if_neg d62]; exact k32
  have d10 : x ≠ q10 := fr_ne h10 k7
  have d102 : q2 ≠ q10 := fr_ne h10 k72
  have k76 : wK (nA (sR (nA (nO w00 10 x) 18 q2 40) 10 0 x q2) 17 q6 300) q6 = 17 := nA_new
  have d106 : q6 ≠ q10 := fr_ne (c := 16) h10 k76
  refine oX1_init X _ q10 _ ⟨by rw [nO_new]; decide, ?_⟩
  rintro qc hc nc v3 rfl
  have t : ∀ a c, wK (sR (nA (sR (nA (nO w00 10 x) 18 q2 40) 10 0 x q2) 17 q6 300) 10 1 x q6) a = c + 1 → a ≠ q10 → wK (nO (sR (nA (sR (nA (nO w00 10 x) 18 q2 40) 10 0 x q2) 17 q6 300) 10 1 x q6) 1 q10) a = c + 1 := fun a c h d => by rw [(S_nO _ 1 q10).2.2.2.2.1, if_neg d]; exact h
  have dc : x ≠ qc := fr_ne hc (t x 10 k7 d10)
  have dc2 : q2 ≠ qc := fr_ne hc (t q2 17 k72 d102)
  have dc6 : q6 ≠ qc := fr_ne hc (t q6 16 k76 d106)
  have dc10 : q10 ≠ qc := fr_ne (c := 1) hc nO_new
  have kc : ∀ a c, wK (nO (sR (nA (sR (nA (nO w00 10 x) 18 q2 40) 10 0 x q2) 17 q6 300) 10 1 x q6) 1 q10) a = c + 1 → a ≠ qc → wK (nA (nO (sR (nA (sR (nA (nO w00 10 x) 18 q2 40) 10 0 x q2) 17 q6 300) 10 1 x q6) 1 q10) 13 qc 101) a = c + 1 := fun a c h d => by rw [(S_nA _ 13 qc 101).2.2.2.1, if_neg d]; exact h
  refine ⟨kc q10 1 nO_new dc10, ?_⟩
  rintro v5 rfl
  refine ⟨kc x 10 (t x 10 k7 d10) dc, ?_⟩
  rintro w15 rfl q16 h16 n16 w17 rfl
  have d16 : x ≠ q16 := fr_ne h16 (kc x 10 (t x 10 k7 d10) dc)
  have d162 : q2 ≠ q16 := fr_ne h16 (kc q2 17 (t q2 17 k72 d102) dc2)
  have d166 : q6 ≠ q16 := fr_ne h16 (kc q6 16 (t q6 16 k76 d106) dc6)
  have d1610 : q10 ≠ q16 := fr_ne h16 (kc q10 1 nO_new dc10)
  have kcc : wK (nA (nO (sR (nA (sR (nA (nO w00 10 x) 18 q2 40) 10 0 x q2) 17 q6 300) 10 1 x q6) 1 q10) 13 qc 101) qc = 13 := nA_new
  have d16c : qc ≠ q16 := fr_ne (c := 12) h16 kcc
  refine oX4_init X _ q16 0 0 _ ⟨by rw [nO_new]; decide, nO_new, ?_⟩
  rintro u3 rfl u5 rfl
  refine ⟨?_, ?_⟩
  · show wK (nO _ 4 q16) x = 11
    rw [(S_nO _ 4 q16).2.2.2.2.1, if_neg d16]; exact kc x 10 (t x 10 k7 d10) dc
  rintro V rfl
  have z1 : wK w00 = fun _ => 0 := rfl
  have z2 : wI w00 = fun _ _ _ => 0 := rfl
  have z3 : wJ w00 = fun _ _ _ => 0 := rfl
  have z4 : wR w00 = fun _ _ _ => 0 := rfl
  refine ⟨?_, ⟨?_, ?_, ?_, ?_, ?_, ?_, ?_⟩, ⟨fun k => ?_, ?_, ?_, ?_⟩, ⟨?_, ?_, ?_, ?_⟩, ?_, ?_⟩ <;>
    simp [S_sR, S_sI, S_nO, S_nA, z1, z2, z3, z4, x0, x0.symm, n2, n2.symm, n6, n6.symm, n10, n10.symm, nc, nc.symm, n16, n16.symm, d2, d2.symm, d6, d6.symm, d62, d62.symm, d10, d10.symm, d102, d102.symm, d106, d106.symm, dc, dc.symm, dc2, dc2.symm, dc6, dc6.symm, dc10, dc10.symm, d16, d16.symm, d162, d162.symm, d166, d166.symm, d1610, d1610.symm, d16c, d16c.symm]
def r00 : Rs := (s00, 0, fun _ _ => 0, fun _ _ => 0)
theorem RI_0 : RI r00 := by
  have e2 : nF r00 = 0 := rfl
  have e30 : nE r00 = 0 := rfl
  have e38 : nP r00 = 0 := rfl
  refine ⟨⟨⟨rfl, by decide⟩, ⟨rfl, by decide⟩, rfl, by decide⟩, fun f hf => ?_, ⟨fun i => ⟨Or.inl rfl, Or.inl rfl, Or.inl rfl⟩, fun e _ => ⟨rfl, rfl, rfl, rfl, rfl, rfl⟩, fun f p _ _ => rfl, fun e a b => ?_, fun e a b => ?_, fun e a b => ?_⟩, fun e a b => ?_, fun q a b => ?_, by decide, by decide, Or.inl rfl, by decide, fun e a b => ?_, fun q a b => ?_⟩ <;> omega
theorem AT_0 {V w : Wd} {x m : Nat} (hV : CV V x) (h : NI V m s00 rowsX w) : AT w x m r00 r00 := by
  obtain ⟨v0, ⟨v1, v2, v3, v4, v5, v6, v7⟩, ⟨i1, i2, i3, i4⟩, ⟨c1, c2, c3, c4⟩, p1, p2⟩ := hV
  obtain ⟨h1, h2, h3, h4, h5, h6, h7, h8⟩ := h
  have gx := h1 x (by rw [v1]; decide)
  have g0 := h1 _ (show wK V (wR V 10 0 x) ≠ 0 by rw [v2]; decide)
  have g1 := h1 _ (show wK V (wR V 10 1 x) ≠ 0 by rw [v4]; decide)
  have g2 := h1 _ (show wK V (wR V 10 2 x) ≠ 0 by rw [v6]; decide)
  have g8 := h1 _ (show wK V (wR V 10 8 x) ≠ 0 by rw [v7]; decide)
  have gc := h1 _ (show wK V (wR V 1 0 (wR V 10 2 x)) ≠ 0 by rw [c1]; decide)
  have e2 : nF r00 = 0 := rfl
  have e30 : nE r00 = 0 := rfl
  have e38 : nP r00 = 0 := rfl
  have eca : ca w x = wR V 1 0 (wR V 10 2 x) := by unfold ca; rw [gx.2.2.2.2.1 10 2, g2.2.2.2.2.1 1 0]
  refine ⟨⟨⟨h3, fun k hk h0 => ?_, fun j k hj hk h0 h0' e => ?_⟩, ⟨rfl, rfl, rfl, rfl⟩, fun _ _ _ _ => rfl, fun _ _ _ _ => rfl, fun _ _ _ => ⟨rfl, rfl⟩, h5, h6, fun k i hk h0 => ?_, fun k i hk h0 => ?_⟩, ⟨h4, fun k hk h0 e => ?_, Nat.le_add_right _ _⟩, ?_, ⟨fun f hf => ?_, fun e a b => ?_, fun e a b => ?_, ⟨[], ?_, rfl, ?_, fun q hq => ?_⟩, fun k k' a b => ?_, fun e e' a b => ?_⟩, RI_0⟩
  · have := h7 k (rowsX_all k hk h0); exact ⟨this.1, this.2.1⟩
  · exact h8 j k (rowsX_all j hj h0) (rowsX_all k hk h0') e
  · exact ((h7 k (rowsX_all k hk h0)).2.2.1 i).1
  · exact ((h7 k (rowsX_all k hk h0)).2.2.1 i).2
  · have := (h7 k (rowsX_all k hk h0)).2.2.2
    rw [e, eca, c1] at this; cases this
  · unfold CS
    rw [gx.2.2.2.2.1 10 0, gx.2.2.2.2.1 10 1, gx.2.2.2.2.1 10 2, gx.2.2.2.2.1 10 8, g2.2.2.2.2.1 1 0, gx.1, g0.1, g0.2.1, g1.1, g1.2.1, g2.1, g8.1, gc.1, gc.2.1, g8.2.2.1 4 0, g8.2.2.1 4 1, g2.2.2.1 1 1, g2.2.2.1 1 2, gx.2.2.1 10 3, gx.2.2.1 10 4, gx.2.2.1 10 5, gx.2.2.1 10 9, gx.2.2.1 10 10, gx.2.2.1 10 12, gx.2.2.1 10 13, gx.2.2.2.1 10 11]
    exact ⟨⟨v1, v2, v3, v4, v5, v6, v7⟩, ⟨i1 3, i1 4, i1 5, i3, i4, i1 9, i1 10, i2, i1 12, i1 13⟩, c1, c2, c3, c4, 0, rfl, by decide, fun i hi => by omega⟩
  · omega
  · omega
  · omega
  · show wR w 10 6 x = 0; rw [gx.2.2.2.2.1 10 6]; exact p1
  · show wR w 10 7 x = 0; rw [gx.2.2.2.2.1 10 7]; exact p2
  · omega
  · omega
  · omega
