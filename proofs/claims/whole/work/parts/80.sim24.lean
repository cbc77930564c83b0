/-! ===== enter ===== -/
theorem en_uS (r : Rs) (N f : Nat) (ki : Int32) (s : Int64) (rt : Int32) (P : Int64) (d t v : Int32) : enR (uS r 41 v) N f ki s rt P d t = uS (enR r N f ki s rt P d t) 41 v := by
  unfold enR mkR mk0
  rw [uS_comm r (j := 41) (k := 30) (by decide)]
  rfl
theorem pe_refl_of {a b : Rs} (h : b = a) : Pe a b := by rw [h]; exact Pe.rf _
set_option maxHeartbeats 4000000 in
theorem sm_enter (f k : Int32) (s : Int64) (rt : Int32) (P : Int64) : SmI bX10_enter mX10_enter bX11_enter mX11_enter [vI f, vI k, vJ s, vI rt, vJ P] := by
  intro X w x m r hA
  have hC := hA.2.2.1
  have hI := hA.2.2.2.2
  have hc := hI.1
  have h4 := hA.2.2.2.1
  have hN := hc.2.1.2
  have hF40 := hc.1.2
  have hz := hA.2.1.1
  refine oX10_enter X _ x f k s rt P w ⟨hC.1.1, (c_folioAt w x r f hC hc).R ?_⟩
  rintro a w1 ⟨rfl, rfl⟩
  refine ⟨hC.1.1, ?_⟩
  by_cases hfn : f < 0 ∨ sS r 2 ≤ f
  · rw [if_pos hfn]
    refine oX10_enterFault X _ x 0 k s rt P w1 ⟨fun q => absurd rfl q, fun _ => ⟨hC.1.1, (c_settle w1 x 1 hC.1.1).I ?_⟩⟩
    rintro v w2 ⟨rfl, rfl⟩
    refine ⟨fun _ => ⟨_, AT_st 1 hA, ?_⟩, fun q => absurd rfl q⟩
    have hS := (AT_st 1 hA).1.1
    refine pX11_enter X _ m hS _ f k s rt P r ⟨fun _ => cm_ref hS (Pe.rf _) 1, fun h0 => ⟨fun q => ?_, fun _ => cm_ref hS (Pe.rf _) 1⟩⟩
    rcases hfn with z | z
    · exact absurd z h0
    · rw [Int32.lt_iff_toInt_lt] at q; rw [Int32.le_iff_toInt_le] at z; omega
  obtain ⟨n, rfl, hn⟩ := fol_of hc (fun q => hfn (Or.inl q)) (fun q => hfn (Or.inr q))
  have hFn := h4.1 n hn
  have h0F := K_nz hz hFn.1
  rw [if_neg hfn, nI_clamp (show n < 2 ^ 31 by omega)]
  refine (c_enterFault w1 x r hz hC hI h4 n k s rt P hn).I ?_
  rintro v w2 ⟨rfl, rfl⟩
  refine ⟨hC.1.1, (c_settle w2 x _ hC.1.1).I ?_⟩
  rintro v w3 ⟨rfl, rfl⟩
  refine ⟨fun hq => ?_, fun hq => ⟨fun _ => ⟨hC.1.1, ?_⟩, fun q => absurd q h0F⟩⟩
  · rw [bI_0] at hq
    have hne : entF r n k s rt P ≠ 0 := by simpa using hq
    refine ⟨_, AT_st (entF r n k s rt P) hA, (s_enterRef (AT_st (entF r n k s rt P) hA).1.1 r hI n k s rt P hn).I ?_⟩
    rintro u r1 ⟨hu, -⟩
    exact hu hne
  rw [bI_n] at hq
  have hzf : entF r n k s rt P = 0 := by simpa using hq
  rw [hzf]
  have hA0 := AT_st 0 hA
  have fz : ¬ k < 1 ∧ ¬ 6 < k ∧ ¬ rt < 0 ∧ ¬ nE r = 300 := by
    unfold entF at hzf
    refine ⟨?_, ?_, ?_, ?_⟩ <;> intro z <;> revert hzf <;> simp [z] <;> grind
  have hk1 : (1 : Int32) ≤ k := by have := fz.1; rw [Int32.lt_iff_toInt_lt] at this; rw [Int32.le_iff_toInt_le]; omega
  have hk6 : k ≤ (6 : Int32) := by have := fz.2.1; rw [Int32.lt_iff_toInt_lt] at this; rw [Int32.le_iff_toInt_le]; omega
  have hrt : (0 : Int32) ≤ rt := by have := fz.2.2.1; rw [Int32.lt_iff_toInt_lt] at this; rw [Int32.le_iff_toInt_le]; omega
  have hlt : nE r < 300 := by have := fz.2.2.2; omega
  have fy : ¬ s < 0 ∧ ¬ 999999999999 < s ∧ rt ≤ maxR k := by
    unfold entF at hzf
    refine ⟨?_, ?_, ?_⟩
    · intro z; revert hzf; simp [z]; grind
    · intro z; revert hzf; simp [z]; grind
    · apply Classical.byContradiction; intro z; revert hzf; simp [z]; grind
  have hEO : EnO (uS r 41 0) k s rt (dnow r) := by
    have hRd := hI.2.2.2.2.2
    have s1 := fy.1
    have s2 := fy.2.1
    rw [Int64.lt_iff_toInt_lt] at s1 s2
    refine ⟨by rw [Int64.le_iff_toInt_le]; omega, by rw [Int64.le_iff_toInt_le]; omega, fun a b => ?_, ?_⟩
    · have := fy.2.2
      unfold maxR at this
      rw [if_neg a, if_neg b] at this; exact this
    · show 0 ≤ dnow r ∧ dnow r ≤ sS r 39
      unfold dnow
      split
      · exact ⟨hRd.1, Int32.le_refl _⟩
      · rename_i hne
        rcases hRd.2.2.1 with z | z
        · exact absurd z hne
        · exact z
  have ht := today_ne hA0.2.2.2.2.2.2.2.2.2
  generalize hW0 : sI w2 10 13 x 0 = W0 at *
  have fA0 : fA w2 x n = fA W0 x n := by rw [← hW0]; rfl
  refine (c_newAct W0 x (uS r 41 0) hA0.2.2.1).R ?_
  intro qa wa hna
  have hAa := hna.AT hA0
  have haa := hna.2.2.2.2
  rintro qt hqt hqt0 w5 rfl
  have hat : qa ≠ qt := fun e => by rw [← e, haa.1] at hqt; cases hqt
  have e1 : wK (nO wa 8 qt) qa = 1 := by rw [(S_nO wa 8 qt).2.2.2.2.1, if_neg hat]; exact haa.1
  have e2 : wI (nO wa 8 qt) 0 0 qa = dnow r := by rw [(S_nO wa 8 qt).2.2.2.2.2.1, if_neg hat]; exact haa.2.1
  rw [e2]
  refine ⟨e1, (c_newTerms wa qt hqt hqt0 k rt s (dnow r)).V ?_⟩
  rintro wt ⟨gt, zt, nt, ft⟩
  rintro qw hqw hqw0 w6 rfl
  refine (c_newWhole wt qw hqw hqw0 _ P qa qt).V ?_
  rintro wb ⟨gb, zb, nb, fb⟩
  rintro qe hqe hqe0 w7 rfl
  have ga : Ag W0 wt := hna.2.2.1.tr gt
  have gab : Ag W0 wb := ga.tr gb
  have hAb : AT wb x m r (uS r 41 0) := AG_all gab (by rw [zb, zt, hna.2.2.2.1]; exact hA0.2.1.1) hA0
  have gE : Ag wb (nO wb 2 qe) := Ag.nO 2 qe hqe
  have kx : wK (nO wb 2 qe) x = 11 := ((gE x (kz hAb.2.2.1.1.1)).1).trans hAb.2.2.1.1.1
  have nx4 : wI (nO wb 2 qe) 10 4 x + 1 = nI (nE r + 1) := by
    rw [(gE x (kz hAb.2.2.1.1.1)).2.2.1 10 4, show wI wb 10 4 x = nI (nE r) from hAb.2.2.1.2.1.2.1.trans hc.2.1.1]
    exact nI_1 _
  rw [nx4]
  have tail : ∀ sm : Int64, sm = (if k = 3 then 0 else s) → Ct X bX2_init mX2_init [vR qe, vI (nI (nE r + 1)), vR qw, vR 0, vJ sm, vI 0] (nO wb 2 qe) (qV fun w28 => wK w28 qw = 10 ∧ Ct X bX9_begin mX9_begin [vR qw, vR qe] w28 (qV fun w30 => wK w30 (fA w2 x n) = 4 ∧ Ct X bX3_insert mX3_insert [vR (fA w2 x n), vR qw] w30 (qV fun w33 => wK w33 x = 11 ∧ Ct X bX10_addEntry mX10_addEntry [vR x, vR qe] w33 (qI fun x37 w36 => ∃ r', AT w36 x m r r' ∧ CM X w36 m bX11_enter mX11_enter [vI (nI n), vI k, vJ s, vI rt, vJ P] r (pI fun u r1 => u = x37 ∧ Pe r' r1))))) := by
    rintro sm rfl
    refine (c_newEntry wb qe hqe hqe0 (nI (nE r + 1)) qw 0 _ 0).V ?_
    rintro we ⟨ge, ze, ne, fe⟩
    have kw : wK we qw = 10 := ((ge qw (kz fb.1)).1).trans fb.1
    refine ⟨kw, oX9_begin X _ qw qe we ⟨kw, ?_⟩⟩
    rintro w30 rfl w31 rfl w32 rfl
    have hwq : wK W0 qw = 0 := Classical.byContradiction fun z => by rw [(ga qw z).1] at hqw; exact z hqw
    have gf : Ag W0 (sR (sR (sR we 9 8 qw qe) 9 9 qw qe) 9 10 qw qe) := (((gab.tr ge).sR 9 8 qw qe hwq).sR 9 9 qw qe hwq).sR 9 10 qw qe hwq
    have hAf := AG_all gf (by show wK we 0 = 0; rw [ze, zb, zt, hna.2.2.2.1]; exact hA0.2.1.1) hA0
    have hAg := AG_e gf hA0
    have fAf : fA w2 x n = fA (sR (sR (sR we 9 8 qw qe) 9 9 qw qe) 9 10 qw qe) x n := by rw [hAg.2.1]; exact fA0
    have Gw := fb
    have tqa : Ac (sR (sR (sR we 9 8 qw qe) 9 9 qw qe) 9 10 qw qe) qa (dnow r) (sS r 39) := by
      have g2 : Ag wa we := (gt.tr gb).tr ge
      have z := g2 qa (kz haa.1)
      exact ⟨fun e => absurd e ht, fun _ => ⟨z.1.trans haa.1, (z.2.2.1 0 0).trans haa.2.1, (z.2.2.1 0 1).trans haa.2.2⟩⟩
    have zt2 := (gb.tr ge) qt (kz ft.1)
    have zw2 := ge qw (kz fb.1)
    have hqwA : ∀ k', 1 ≤ k' → k' ≤ nE r → paR r k' = 0 → wA (sR (sR (sR we 9 8 qw qe) 9 9 qw qe) 9 10 qw qe) x k' ≠ qw := fun k' a b c e => by
      have h := (hA0.2.2.2.1.2.2.1 k' a b c).1.1
      rw [← hAg.2.2 k' a b, e, hwq] at h
      cases h
    have hqtT : ∀ k', 1 ≤ k' → k' ≤ nE r → paR r k' = 0 → wR (sR (sR (sR we 9 8 qw qe) 9 9 qw qe) 9 10 qw qe) 9 3 (wA (sR (sR (sR we 9 8 qw qe) 9 9 qw qe) 9 10 qw qe) x k') ≠ qt := fun k' a b c e => by
      have h := hA0.2.2.2.1.2.2.1 k' a b c
      have g3 := (gf (wA W0 x k') (kz h.1.1)).2.2.2.2.1 9 3
      rw [hAg.2.2 k' a b, g3] at e
      have h9 := (hna.2.2.1 _ (kz h.2.2.1.1)).1
      rw [e, hqt] at h9
      have := h.2.2.1.1
      rw [e] at this
      rw [this] at h9
      cases h9
    rw [fAf]
    refine ⟨(hAf.2.2.2.1.1 n hn).1, c_insert (ki := k) (s := s) (rt := rt) (P := P) (d := dnow r) (t := sS r 39) (qa := qa) _ hAf hlt hn kw ((zw2.2.2.2.2.1 9 2).trans fb.2.2.2.1) (tqa.2 ht).1 (tqa.2 ht).2.1 hqwA ?_⟩
    intro w' f1 f2 f3 f4 f5 f6 f7 f8 l1 l2 l3
    have kx' : wK w' x = 11 := by rw [f1]; exact hAf.2.2.1.1.1
    have x101 : wR w' 10 1 x = wR (sR (sR (sR we 9 8 qw qe) 9 9 qw qe) 9 10 qw qe) 10 1 x := by rw [f8 10 1 (by omega) (by omega)]
    have x104 : wI w' 10 4 x = nI (nE r) := by rw [f3]; exact hAf.2.2.1.2.1.2.1.trans hc.2.1.1
    have k17 := hAf.2.2.1.1.2.2.2.1
    have l300 := hAf.2.2.1.1.2.2.2.2.1
    refine ⟨kx', oX10_addEntry X _ x qe w' ?_⟩
    rw [x101, x104, f1, f2, l300, nI_clamp (show nE r < 2 ^ 31 by omega)]
    refine ⟨hAf.2.2.1.1.1, k17, fun _ => ⟨fe.1, inN hlt (by omega), ?_⟩, fun q => absurd (nI_lt hlt (by omega)) q⟩
    rintro w36 rfl w38 rfl
    have v104 : wI (yR w' (wR (sR (sR (sR we 9 8 qw qe) 9 9 qw qe) 9 10 qw qe) 10 1 x) (nE r) qe) 10 4 x + 1 = nI (nE r + 1) := by
      rw [show wI (yR w' (wR (sR (sR (sR we 9 8 qw qe) 9 9 qw qe) 9 10 qw qe) 10 1 x) (nE r) qe) 10 4 x = nI (nE r) from x104]
      exact nI_1 _
    rw [v104]
    have hT := AT_enter (r' := uS r 41 0) (w' := sI (yR w' (wR (sR (sR (sR we 9 8 qw qe) 9 9 qw qe) 9 10 qw qe) 10 1 x) (nE r) qe) 10 4 x (nI (nE r + 1))) hAf rfl hlt hn hk1 hk6 hrt hEO ht tqa
      (qt := qt) (qw := qw) (qe := qe) (s := s) (P := P) (f := n)
      ⟨zt2.1.trans ft.1, (zt2.2.2.1 8 0).trans ft.2.1, (zt2.2.2.1 8 1).trans ft.2.2.1, (zt2.2.2.2.1 8 2).trans ft.2.2.2.1, (zt2.2.2.1 8 3).trans ft.2.2.2.2.1, (zt2.2.2.1 8 4).trans ft.2.2.2.2.2.1, (zt2.2.2.2.2.1 8 5).trans ft.2.2.2.2.2.2.1, (zt2.2.2.1 8 7).trans ft.2.2.2.2.2.2.2⟩
      hqtT
      ⟨kw, ((zw2.2.2.2.2.1 9 0).trans fb.2.1).trans fAf, (zw2.2.2.2.1 9 1).trans fb.2.2.1, (zw2.2.2.2.2.1 9 2).trans fb.2.2.2.1, (zw2.2.2.2.2.1 9 3).trans fb.2.2.2.2.1, (zw2.2.2.2.2.1 9 4).trans fb.2.2.2.2.2.1, (zw2.2.2.1 9 5).trans fb.2.2.2.2.2.2.1, (zw2.2.2.2.2.1 9 6).trans fb.2.2.2.2.2.2.2.1, (zw2.2.2.2.2.1 9 7).trans fb.2.2.2.2.2.2.2.2, by simp [S_sR], by simp [S_sR], by simp [S_sR]⟩
      fe
      f1 f2 f4 f5 f6
      (fun c k' a => by show (if c = 10 ∧ k' = 4 ∧ a = x then nI (nE r + 1) else wI w' c k' a) = _; rw [f3]; rfl)
      (fun c k' n1 n2 => f8 c k' n1 n2)
      (fun a i => by show (if a = _ ∧ i = nE r then qe else xR w' a i) = _; rw [f7]; rfl)
      l1 l2 l3
    refine ⟨_, hT, (s_enterRef hT.1.1 r hI n k s rt P hn).I ?_⟩
    rintro u r1 ⟨-, hu⟩
    obtain ⟨rfl, rfl⟩ := hu hzf
    refine ⟨?_, ?_⟩
    · show nI (nE r + 1) = wI w' 2 0 qe
      rw [f3]; exact fe.2.1.symm
    · exact pe_refl_of (en_uS r (nE r + 1) n k s rt P (dnow r) (sS r 39) 0).symm
  exact ⟨kx, fun q => tail s (by rw [if_neg q]), fun q => tail 0 (by rw [if_pos q])⟩
