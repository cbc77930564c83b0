/-! ===== split, hand ===== -/
theorem mk_uS (r : Rs) (N : Nat) (fo ki wh pa ow : Int32) (sm : Int64) (v : Int32) : mkR (uS r 41 v) N fo ki wh pa ow sm = uS (mkR r N fo ki wh pa ow sm) 41 v := by
  unfold mkR mk0
  rw [uS_comm r (j := 41) (k := 30) (by decide)]
  rfl
theorem pt_uS (r : Rs) (N n : Nat) (s : Int64) (ow v : Int32) : ptR (uS r 41 v) N n s ow = uS (ptR r N n s ow) 41 v := by
  unfold ptR
  rw [mk_uS, mk_uS]
  rfl
set_option maxHeartbeats 4000000 in
theorem c_divide {X : Cx} {w : Wd} {x m n : Nat} {r r' : Rs} (s : Int64) (ow : Int32) (hA : AT w x m r r') (hne : nE r' = nE r) (h1 : 1 ≤ n) (h2 : n ≤ nE r') (hn : nE r' ≤ 298) (hlf : fiR r' n = 0) (hk : rI r' 3 n ≠ 6) (hk4 : rI r' 3 n ≠ 4) (hs : 0 ≤ s ∧ s ≤ rJ r' 8 n) : Ct X bX10_divide mX10_divide [vR x, vR (eA w x n), vJ s, vI ow] w (qI fun v w1 => v = nI (nE r' + 1) ∧ AT w1 x m r (ptR r' (nE r' + 1) n s ow)) := by
  have hC := hA.2.2.1
  have hI := hA.2.2.2.2
  have hc := hI.1
  have h4 := hA.2.2.2.1
  have hz := hA.2.1.1
  have hE := h4.2.1 n h1 h2
  have hIn := hI.2.2.2.1 n h1 h2
  have hk1 := hIn.2.1.1
  have hk2 : whR r' n ≤ nE r' := Nat.le_trans hIn.2.1.2.1 h2
  have hkp : paR r' (whR r' n) = 0 := (hI.2.2.2.1 _ hk1 hk2).2.1.2.2.2.1.mpr hIn.2.1.2.2.1
  have n4 : wI w 10 4 x = nI (nE r') := hC.2.1.2.1.trans hc.2.1.1
  refine oX10_divide X _ x (eA w x n) s ow w ⟨hE.1.1, hC.1.1, ?_⟩
  rintro q1 hq1 hq10 w4 rfl
  rw [n4, nI_1, nI_1, hE.1.2.2.1]
  have g0 : Ag w (nO w 2 q1) := Ag.nO 2 q1 hq1
  rw [(g0 _ (kz hE.1.1)).2.2.1 2 3, hE.2.1.1]
  refine (c_newEntry w q1 hq1 hq10 (nI (nE r' + 1)) (wA w x (whR r' n)) (eA w x n) s (rI r' 7 n)).V ?_
  rintro w6 ⟨g1, z1, nn1, f1⟩
  rintro q2 hq2 hq20 w9 rfl
  have g2 : Ag w (nO w6 2 q2) := g1.tr (Ag.nO 2 q2 hq2)
  have ge := g2 _ (kz hE.1.1)
  rw [ge.2.2.2.1 2 4, hE.2.1.2.1]
  refine ⟨ge.1.trans hE.1.1, (c_newEntry w6 q2 hq2 hq20 (nI (nE r' + 1 + 1)) (wA w x (whR r' n)) (eA w x n) (rJ r' 8 n - s) ow).V ?_⟩
  rintro wE ⟨g3, z3, nn3, f2⟩
  have gE : Ag w wE := g1.tr g3
  have hAE := AG_all gE (by rw [z3, z1]; exact hz) hA
  have ag := AG_e gE hA
  have f1' := g3 q1 (kz f1.1)
  have e1 : eA wE x n = eA w x n := by rw [ag.1]
  have e2 : wA wE x (whR r' n) = wA w x (whR r' n) := ag.2.2 _ hk1 hk2
  have kq1 : wK wE q1 = 3 := f1'.1.trans f1.1
  have h12 : q1 ≠ q2 := fun e => by rw [← e, f1.1] at hq2; cases hq2
  have nq1 : ∀ k, 1 ≤ k → k ≤ nE r' → eA wE x k ≠ q1 := fun k a b e => by
    have := (h4.2.1 k a b).1.1
    rw [← ag.1, e, hq1] at this; cases this
  have nq2 : ∀ k, 1 ≤ k → k ≤ nE r' → eA wE x k ≠ q2 := fun k a b e => by
    have h5 := (g1 _ (kz (h4.2.1 k a b).1.1)).1
    rw [← ag.1, e, hq2] at h5
    have := (h4.2.1 k a b).1.1
    rw [← ag.1, e] at this
    rw [this] at h5; cases h5
  rw [← e1, ← e2]
  refine ⟨by rw [e2]; exact (gE _ (kz (h4.2.2.1 _ hk1 hk2 hkp).1.1)).1.trans (h4.2.2.1 _ hk1 hk2 hkp).1.1, c_replaceLeaf _ hAE h1 h2 hlf kq1 f2.1 h12 nq1 nq2 ?_⟩
  intro w' p1 p2 p3 p4 p5 p6 p7 p8 lC
  have hCE := hAE.2.2.1
  have x101 : wR w' 10 1 x = wR wE 10 1 x := by rw [p8 10 1 (by omega) (by omega)]
  have x104 : wI w' 10 4 x = nI (nE r') := by rw [p7, if_neg (by omega)]; exact hCE.2.1.2.1.trans hc.2.1.1
  have k17 := hCE.1.2.2.2.1
  have l300 := hCE.1.2.2.2.2.1
  refine ⟨by rw [p1]; exact hCE.1.1, oX10_addEntry X _ x q1 w' ?_⟩
  rw [x101, x104, p1, p2, l300, nI_clamp (show nE r' < 2 ^ 31 by omega)]
  refine ⟨hCE.1.1, k17, fun _ => ⟨kq1, inN (show nE r' < 300 by omega) (by omega), ?_⟩, fun q => absurd (nI_lt (show nE r' < 300 by omega) (by omega)) q⟩
  rintro v1 rfl v2 rfl
  have y4 : wI (yR w' (wR wE 10 1 x) (nE r') q1) 10 4 x = nI (nE r') := x104
  rw [y4, nI_1]
  refine ⟨by show wK w' x = 11; rw [p1]; exact hCE.1.1, oX10_addEntry X _ x q2 _ ?_⟩
  have y4' : wI (sI (yR w' (wR wE 10 1 x) (nE r') q1) 10 4 x (nI (nE r' + 1))) 10 4 x = nI (nE r' + 1) := by simp [S_sI]
  have y1' : wR (sI (yR w' (wR wE 10 1 x) (nE r') q1) 10 4 x (nI (nE r' + 1))) 10 1 x = wR wE 10 1 x := x101
  have yK : wK (sI (yR w' (wR wE 10 1 x) (nE r') q1) 10 4 x (nI (nE r' + 1))) = wK wE := p1
  have yL : wL (sI (yR w' (wR wE 10 1 x) (nE r') q1) 10 4 x (nI (nE r' + 1))) = wL wE := p2
  rw [y4', y1', yK, yL, l300, nI_clamp (show nE r' + 1 < 2 ^ 31 by omega)]
  refine ⟨hCE.1.1, k17, fun _ => ⟨f2.1, inN (show nE r' + 1 < 300 by omega) (by omega), ?_⟩, fun q => absurd (nI_lt (show nE r' + 1 < 300 by omega) (by omega)) q⟩
  rintro v3 rfl v4 rfl
  have y5 : wI (yR (sI (yR w' (wR wE 10 1 x) (nE r') q1) 10 4 x (nI (nE r' + 1))) (wR wE 10 1 x) (nE r' + 1) q2) 10 4 x = nI (nE r' + 1) := y4'
  rw [y5, nI_1]
  refine ⟨rfl, AT_part (q1 := q1) (q2 := q2) hAE hne h1 h2 hn hlf hk hk4 hs ?_ ?_ (Ne.symm (nq1 n h1 h2)) (Ne.symm (nq2 n h1 h2)) p1 p2 p3 p4 p5 (fun c k a => ?_) (fun c k a b => p8 c k a b) (fun a i => ?_) lC⟩
  · rw [e1, e2]
    exact ⟨kq1, (f1'.2.2.1 2 0).trans f1.2.1, (f1'.2.2.2.2.1 2 1).trans f1.2.2.1, (f1'.2.2.2.2.1 2 2).trans f1.2.2.2.1, (f1'.2.2.1 2 3).trans f1.2.2.2.2.1, (f1'.2.2.2.1 2 4).trans f1.2.2.2.2.2.1, (f1'.2.2.1 2 5).trans f1.2.2.2.2.2.2.1, (f1'.2.2.2.2.1 2 6).trans f1.2.2.2.2.2.2.2.1, (f1'.2.2.2.1 2 11).trans f1.2.2.2.2.2.2.2.2.2.2.1, (f1'.2.2.2.1 2 12).trans f1.2.2.2.2.2.2.2.2.2.2.2⟩
  · rw [e1, e2]
    exact ⟨f2.1, f2.2.1, f2.2.2.1, f2.2.2.2.1, f2.2.2.2.2.1, f2.2.2.2.2.2.1, f2.2.2.2.2.2.2.1, f2.2.2.2.2.2.2.2.1, f2.2.2.2.2.2.2.2.2.2.2.1, f2.2.2.2.2.2.2.2.2.2.2.2⟩
  · show (if c = 10 ∧ k = 4 ∧ a = x then nI (nE r' + 1 + 1) else if c = 10 ∧ k = 4 ∧ a = x then nI (nE r' + 1) else wI w' c k a) = _
    rw [p7]
    by_cases q : c = 10 ∧ k = 4 ∧ a = x
    · rw [if_pos q, if_pos q]
    · rw [if_neg q, if_neg q, if_neg q]
  · show (if a = _ ∧ i = nE r' + 1 then q2 else if a = _ ∧ i = nE r' then q1 else xR w' a i) = _
    rw [p6]
theorem sub_in {a s : Int64} (h0 : 0 ≤ s) (h1 : s ≤ a) : 0 ≤ a - s ∧ a - s ≤ a := by
  have e := Int64_sub h0 h1
  rw [Int64.le_iff_toInt_le] at h0 h1
  have z0 : (0 : Int64).toInt = 0 := rfl
  rw [z0] at h0
  exact ⟨by rw [Int64.le_iff_toInt_le, e, z0]; omega, by rw [Int64.le_iff_toInt_le, e]; omega⟩
theorem dv_ok {r : Rs} {n : Nat} {s : Int64} {ow by' : Bool} (hI : RI r) (h : dvF r n s ow by' = 0) : nE r ≤ 298 ∧ fiR r n = 0 ∧ rI r 3 n ≠ 6 ∧ rI r 3 n ≠ 4 ∧ 0 ≤ s ∧ s ≤ rJ r 8 n := by
  unfold dvF at h
  have a : nE r ≤ 298 := by
    by_cases z : nE r ≤ 298
    · exact z
    · exfalso; revert h; simp [z]; grind
  have b : fiR r n = 0 := by
    by_cases z : fiR r n = 0
    · exact z
    · exfalso; revert h; simp [z]; grind
  have c : rI r 3 n ≠ 6 := by intro z; revert h; simp [z]
  have d : rI r 3 n ≠ 4 := by intro z; revert h; simp [z]
  have e : 0 ≤ s := by
    apply Classical.byContradiction; intro z
    have : s < 0 := by rw [Int64.le_iff_toInt_le] at z; rw [Int64.lt_iff_toInt_lt]; omega
    revert h; simp [this]; grind
  have f : s ≤ sumF (rJ r 8) 0 (lvs (fiR r) n) := by
    apply Classical.byContradiction; intro z; revert h; simp [z]; grind
  rw [lvs_leaf (HT_of hI.1 hI.2.2.2.1) b] at f
  have g : sumF (rJ r 8) 0 [n] = 0 + rJ r 8 n := rfl
  rw [g, Int64.zero_add] at f
  exact ⟨a, b, c, d, e, f⟩
set_option maxHeartbeats 4000000 in
theorem sm_split (e : Int32) (s : Int64) : SmI bX10_split mX10_split bX11_split mX11_split [vI e, vJ s] := by
  intro X w x m r hA
  have hC := hA.2.2.1
  have hI := hA.2.2.2.2
  have hc := hI.1
  have h4 := hA.2.2.2.1
  have hN := hc.2.1.2
  have hz := hA.2.1.1
  refine oX10_split X _ x e s w ⟨hC.1.1, (c_entryAt w x r e hC hc).R ?_⟩
  rintro a w1 ⟨rfl, rfl⟩
  refine ⟨hC.1.1, ?_⟩
  cases he : entB r e
  · rw [if_neg (by decide)]
    refine oX10_divideFault X _ x 0 s 1 0 w1 ⟨fun q => absurd rfl q, fun _ => ⟨hC.1.1, (c_settle w1 x 1 hC.1.1).I ?_⟩⟩
    rintro v w2 ⟨rfl, rfl⟩
    refine ⟨fun _ => ⟨_, AT_st 1 hA, ?_⟩, fun q => absurd rfl q⟩
    have hS := (AT_st 1 hA).1.1
    refine pX11_split X _ m hS _ e s r (pX11_parting X _ m hS _ e s 1 0 r ((s_isEntry hS r e).I ?_))
    rintro v r1 ⟨rfl, rfl⟩
    rw [he]
    exact ⟨fun q => absurd rfl q, fun _ => ⟨fun q => absurd q (by decide), fun _ => cm_ref hS (Pe.rf _) 1⟩⟩
  · rw [if_pos rfl]
    obtain ⟨n, rfl, h1, h2⟩ := ent_of hc he
    rw [nI_clamp (show n < 2 ^ 31 by omega)]
    have hCe := h4.2.1 n h1 h2
    have h0 := K_nz hz hCe.1.1
    refine (c_divideFault w1 x r hz hC hI h4 n s true false h1 h2).I ?_
    rintro v w2 ⟨rfl, rfl⟩
    refine ⟨hC.1.1, (c_settle w2 x _ hC.1.1).I ?_⟩
    rintro v w3 ⟨rfl, rfl⟩
    refine ⟨fun hq => ?_, fun hq => ⟨fun _ => ⟨hCe.1.1, hC.1.1, ?_⟩, fun q => absurd q h0⟩⟩
    · rw [bI_0] at hq
      have hne : dvF r n s true false ≠ 0 := by simpa using hq
      refine ⟨_, AT_st (dvF r n s true false) hA, (s_splitRef (AT_st (dvF r n s true false) hA).1.1 r hI n s h1 h2).I ?_⟩
      rintro u r1 ⟨hu, -⟩
      exact hu hne
    · rw [bI_n] at hq
      have hzf : dvF r n s true false = 0 := by simpa using hq
      rw [hzf]
      have hA0 := AT_st 0 hA
      obtain ⟨o1, o2, o3, o4, o5, o6⟩ := dv_ok hI hzf
      have e7 : wI (sI w2 10 13 x 0) 2 3 (eA w2 x n) = rI r 7 n := hCe.2.1.1
      rw [e7]
      refine (c_divide (w := sI w2 10 13 x 0) s (rI r 7 n) hA0 rfl h1 h2 o1 o2 o3 o4 ⟨o5, o6⟩).I ?_
      rintro v w4 ⟨rfl, hT⟩
      refine ⟨_, hT, (s_splitRef hT.1.1 r hI n s h1 h2).I ?_⟩
      rintro u r1 ⟨-, hu⟩
      obtain ⟨rfl, r2, hP, rfl⟩ := hu hzf
      refine ⟨rfl, ?_⟩
      rw [pt_uS]
      exact pe_cS (pe_pt hP _ n s _) 41 0
set_option maxHeartbeats 4000000 in
theorem sm_hand (e : Int32) (s : Int64) (o : Int32) : SmI bX10_hand mX10_hand bX11_hand mX11_hand [vI e, vJ s, vI o] := by
  intro X w x m r hA
  have hC := hA.2.2.1
  have hI := hA.2.2.2.2
  have hc := hI.1
  have h4 := hA.2.2.2.1
  have hN := hc.2.1.2
  have hz := hA.2.1.1
  refine oX10_hand X _ x e s o w ⟨hC.1.1, (c_entryAt w x r e hC hc).R ?_⟩
  rintro a w1 ⟨rfl, rfl⟩
  have main : ∀ s0 : Int32, s0 = bI (owB o true) → jX10_hand_26 X (fun v w1 => ∃ r', AT w1 x m r r' ∧ CM X w1 m bX11_hand mX11_hand [vI e, vJ s, vI o] r (pI fun u r1 => u = v ∧ Pe r' r1)) x s o (if entB r e then eA w1 x e.toNatClampNeg else 0) s0 w1 := by
    rintro s0 rfl
    refine tX10_hand_26 X _ _ _ _ _ _ w1 ⟨hC.1.1, ?_⟩
    cases he : entB r e
    · rw [if_neg (by decide)]
      refine oX10_divideFault X _ x 0 s _ 1 w1 ⟨fun q => absurd rfl q, fun _ => ⟨hC.1.1, (c_settle w1 x 1 hC.1.1).I ?_⟩⟩
      rintro v w2 ⟨rfl, rfl⟩
      refine ⟨fun _ => ⟨_, AT_st 1 hA, ?_⟩, fun q => absurd rfl q⟩
      have hS := (AT_st 1 hA).1.1
      refine pX11_hand X _ m hS _ e s o r (pX11_parting X _ m hS _ e s o 1 r ((s_isEntry hS r e).I ?_))
      rintro v r1 ⟨rfl, rfl⟩
      rw [he]
      exact ⟨fun q => absurd rfl q, fun _ => ⟨fun q => absurd q (by decide), fun _ => cm_ref hS (Pe.rf _) 1⟩⟩
    · rw [if_pos rfl]
      obtain ⟨n, rfl, h1, h2⟩ := ent_of hc he
      rw [nI_clamp (show n < 2 ^ 31 by omega)]
      have hCe := h4.2.1 n h1 h2
      have h0 := K_nz hz hCe.1.1
      refine (c_divideFault w1 x r hz hC hI h4 n s (owB o true) true h1 h2).I ?_
      rintro v w2 ⟨rfl, rfl⟩
      refine ⟨hC.1.1, (c_settle w2 x _ hC.1.1).I ?_⟩
      rintro v w3 ⟨rfl, rfl⟩
      refine ⟨fun hq => ?_, fun hq => ⟨fun _ => ⟨hCe.1.1, hC.1.1, ?_⟩, fun q => absurd q h0⟩⟩
      · rw [bI_0] at hq
        have hne : dvF r n s (owB o true) true ≠ 0 := by simpa using hq
        refine ⟨_, AT_st (dvF r n s (owB o true) true) hA, (s_handRef (AT_st (dvF r n s (owB o true) true) hA).1.1 r hI n s o h1 h2).I ?_⟩
        rintro u r1 ⟨hu, -⟩
        exact hu hne
      · rw [bI_n] at hq
        have hzf : dvF r n s (owB o true) true = 0 := by simpa using hq
        rw [hzf]
        have hA0 := AT_st 0 hA
        obtain ⟨o1, o2, o3, o4, o5, o6⟩ := dv_ok hI hzf
        have e7 : wJ (sI w2 10 13 x 0) 2 4 (eA w2 x n) = rJ r 8 n := hCe.2.1.2.1
        rw [e7]
        refine (c_divide (w := sI w2 10 13 x 0) (rJ r 8 n - s) o hA0 rfl h1 h2 o1 o2 o3 o4 (sub_in o5 o6)).I ?_
        rintro v w4 ⟨rfl, hT⟩
        refine ⟨_, hT, (s_handRef hT.1.1 r hI n s o h1 h2).I ?_⟩
        rintro u r1 ⟨-, hu⟩
        obtain ⟨rfl, r2, hP, rfl⟩ := hu hzf
        refine ⟨(nI_1 _).symm, ?_⟩
        rw [pt_uS]
        exact pe_cS (pe_pt hP _ n _ _) 41 0
  refine ⟨fun q => main 0 (by simp [owB, q, bI]), fun q => ⟨fun q2 => main 0 (by simp [owB, q2, bI]), fun q2 => main 1 (by simp [owB, q, q2, bI])⟩⟩
