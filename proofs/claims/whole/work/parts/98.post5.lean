/-! ===== post, the reference's answer and the two beside each other ===== -/
theorem pe_rg {r r1 : Rs} (h : Pe r r1) (L : List Nat) : Pe (rg2 r L) (rg2 r1 L) := ⟨fun k hk => by
  show (if k = 52 then nI L.length else sS r1 k) = (if k = 52 then nI L.length else sS r k)
  rw [h.1 k hk], h.2.1, fun k hk => by
  funext i
  show (if k = 51 ∧ i < L.length then nI (L.getD i 0) else rI r1 k i) = (if k = 51 ∧ i < L.length then nI (L.getD i 0) else rI r k i)
  rw [h.2.2.1 k hk], h.2.2.2⟩
set_option maxHeartbeats 2000000 in
theorem s_postRef {X : Cx} {w0 : Wd} {m : Nat} (hS : Sh w0 m) (r : Rs) (hI : RI r) (a b : Nat) (lim : Int64) (a1 : 1 ≤ a) (a2 : a ≤ nE r) (b1 : 1 ≤ b) (b2 : b ≤ nE r) : CM X w0 m bX11_post mX11_post [vI (nI a), vI (nI b), vJ lim] r (pI fun u r1 => (poF r a b lim ≠ 0 → poF r a b lim ≠ 9 → u = -1 ∧ Pe (uS r 41 (poF r a b lim)) r1) ∧ (poF r a b lim = 9 → u = -1 ∧ Pe (uS (poR r a b) 41 9) r1) ∧ (poF r a b lim = 0 → u = nI (nP r + 1) ∧ Pe (uS (psR r (nP r + 1) a b lim (dnow r) (sS r 39)) 41 0) r1)) := by
  have hc := hI.1
  have hE := hI.2.2.2.1
  have hN := hc.2.1.2
  have hN2 := hc.2.2.2
  have hF40 := hc.1.2
  have ha := hE a a1 a2
  have hb := hE b b1 b2
  have wa := ha.2.1.2.1
  have wb := hb.2.1.2.1
  have hva : vp_in (nI a) 301 := inN (by omega) (by decide)
  have hvb : vp_in (nI b) 301 := inN (by omega) (by decide)
  have no : ∀ (r' : Rs) (f : Int32), Pe r r' → poF r a b lim = f → f ≠ 0 → f ≠ 9 → CM X w0 m bX11_refuse mX11_refuse [vI f] r' (pI fun u r1 => (poF r a b lim ≠ 0 → poF r a b lim ≠ 9 → u = -1 ∧ Pe (uS r 41 (poF r a b lim)) r1) ∧ (poF r a b lim = 9 → u = -1 ∧ Pe (uS (poR r a b) 41 9) r1) ∧ (poF r a b lim = 0 → u = nI (nP r + 1) ∧ Pe (uS (psR r (nP r + 1) a b lim (dnow r) (sS r 39)) 41 0) r1)) := by
    intro r' f h hpf hf0 hf9
    refine (cm_ref hS h f).I ?_
    rintro u r1 ⟨rfl, hq⟩
    rw [hpf]
    exact ⟨fun _ _ => ⟨rfl, hq⟩, fun q => absurd q hf9, fun q => absurd q hf0⟩
  refine pX11_post X w0 m hS _ _ _ lim r ((s_isEntry hS r _).I ?_)
  rintro v r1 ⟨rfl, rfl⟩
  rw [ent_nI hc a1 a2]
  refine ⟨fun q => absurd q (by decide), fun _ => (s_isEntry hS r1 _).I ?_⟩
  rintro v r2 ⟨rfl, rfl⟩
  rw [ent_nI hc b1 b2, nI_clamp (show a < 2 ^ 31 by omega), nI_clamp (show b < 2 ^ 31 by omega), lg_lt, lg_gt, ha.1.2.1, hb.1.2.1, nI_eq (show whR r2 a < 2 ^ 31 by omega) (show whR r2 b < 2 ^ 31 by omega)]
  refine ⟨fun _ => ⟨hva, fun q => no _ 4 (Pe.rf _) (by simp [poF, q]) (by decide) (by decide), fun q6 => ⟨hvb, fun q7 => ⟨fun z => no _ 5 (Pe.rf _) (by simp [poF, q6, q7, z]) (by decide) (by decide), fun z1 => ⟨fun z => no _ 5 (Pe.rf _) (by simp [poF, q6, q7, z]) (by decide) (by decide), fun z2 => ⟨hva, hvb, fun hne => (s_livesNow hS r2 hc hE a a1 a2).I ?_, fun he => no _ 5 (Pe.rf _) (by simp [poF, q6, q7, z1, z2, he]) (by decide) (by decide)⟩⟩⟩, fun q => no _ 4 (Pe.rf _) (by simp [poF, q]) (by decide) (by decide)⟩⟩, fun q => absurd q (by decide)⟩
  rintro v r3 ⟨rfl, rfl⟩
  have hP : Pe r2 (uS (uS r2 45 (sS r2 39)) 46 (sS r2 39)) := pe_now (Pe.rf _) _ _
  refine ⟨fun hl => no _ 6 hP (by rw [bI_0] at hl; simp [poF, q6, q7, z1, z2, hne, oneB, hl]) (by decide) (by decide), fun hl => (s_lives hS (uS (uS r2 45 (sS r2 39)) 46 (sS r2 39)) b (by omega) ⟨whR r2 b, by omega, hb.1.2.1⟩).I ?_⟩
  rw [bI_n] at hl
  rintro v r4 ⟨rfl, rfl⟩
  rw [hP.liv]
  have hs45 : sS (uS (uS r2 45 (sS r2 39)) 46 (sS r2 39)) 45 = sS r2 39 := rfl
  have hs46 : sS (uS (uS r2 45 (sS r2 39)) 46 (sS r2 39)) 46 = sS r2 39 := rfl
  rw [hs45, hs46]
  refine ⟨fun hm => no _ 6 hP (by rw [bI_0] at hm; simp [poF, q6, q7, z1, z2, hne, oneB, hm]) (by decide) (by decide), fun hm => ⟨hva, hvb, ?_⟩⟩
  rw [bI_n] at hm
  rw [hP.2.2.1 4 rfl, hP.2.2.1 5 rfl, ha.1.1, hb.1.1, ha.1.2.1, nI_eq (show foR r2 a < 2 ^ 31 by have := ha.2.2.2.1.1; omega) (show foR r2 b < 2 ^ 31 by have := hb.2.2.2.1.1; omega)]
  refine ⟨fun hf => ⟨hva, (s_measure hS r2 _ hP hI (whR r2 a) (by omega)).V ?_⟩, fun hf => no _ 6 hP (by simp [poF, q6, q7, z1, z2, hne, oneB, hf]) (by decide) (by decide)⟩
  have ho : oneB r2 a b = true := by simp [oneB, hl, hm, hf]
  intro r50 hFa
  rw [Fs_eq hI] at hFa
  have hPm := hFa.1
  rw [hPm.2.2.1 5 rfl, ha.1.2.1, hb.1.2.1, nI_clamp (show whR r2 b < 2 ^ 31 by omega), hFa.2 _ hb.2.1.1 (by omega)]
  refine ⟨hvb, inN (by omega) (by decide), fun hF => ⟨fun hnp => ?_, fun hnp => ?_⟩, fun hF => ⟨hva, hvb, ?_⟩⟩
  · rw [hPm.1 38 rfl, hc.2.2.1] at hnp ⊢
    have hnp' : nP r2 ≠ 100 := fun e => hnp (by rw [e]; rfl)
    have hpf : poF r2 a b lim = 0 := by simp [poF, q6, q7, z1, z2, hne, ho, hF, hnp']
    rw [nI_1]
    have hv1 : vp_in (nI (nP r2 + 1)) 101 := inN (by omega) (by decide)
    have cl : (nI (nP r2 + 1)).toNatClampNeg = nP r2 + 1 := nI_clamp (by omega)
    rintro r55 rfl
    have s38 : ∀ ρ : Rs, sS ρ 38 = nI (nP r2 + 1) → (sS ρ 38).toNatClampNeg = nP r2 + 1 := fun ρ e => by rw [e]; exact cl
    have e55 : sS (uS r50 38 (nI (nP r2 + 1))) 38 = nI (nP r2 + 1) := rfl
    rw [e55, cl]
    refine ⟨hv1, ?_⟩
    rintro r58 rfl
    have e58 : sS (uI (uS r50 38 (nI (nP r2 + 1))) 31 (nP r2 + 1) (nI a)) 38 = nI (nP r2 + 1) := rfl
    rw [e58, cl]
    refine ⟨hv1, ?_⟩
    rintro r61 rfl
    have e61 : sS (uI (uI (uS r50 38 (nI (nP r2 + 1))) 31 (nP r2 + 1) (nI a)) 32 (nP r2 + 1) (nI b)) 38 = nI (nP r2 + 1) := rfl
    rw [e61, cl]
    refine ⟨hv1, ?_⟩
    rintro r64 rfl
    refine (s_dateNow hS _).I ?_
    rintro v r68 ⟨rfl, rfl⟩
    have edn : dnow (uJ (uI (uI (uS r50 38 (nI (nP r2 + 1))) 31 (nP r2 + 1) (nI a)) 32 (nP r2 + 1) (nI b)) 33 (nP r2 + 1) lim) = dnow r2 := by rw [← hPm.dn]; rfl
    have e64 : sS (uJ (uI (uI (uS r50 38 (nI (nP r2 + 1))) 31 (nP r2 + 1) (nI a)) 32 (nP r2 + 1) (nI b)) 33 (nP r2 + 1) lim) 38 = nI (nP r2 + 1) := rfl
    rw [edn, e64, cl]
    refine ⟨hv1, ?_⟩
    rintro r70 rfl
    have e70 : sS (uI (uJ (uI (uI (uS r50 38 (nI (nP r2 + 1))) 31 (nP r2 + 1) (nI a)) 32 (nP r2 + 1) (nI b)) 33 (nP r2 + 1) lim) 34 (nP r2 + 1) (dnow r2)) 38 = nI (nP r2 + 1) := rfl
    have f70 : sS (uI (uJ (uI (uI (uS r50 38 (nI (nP r2 + 1))) 31 (nP r2 + 1) (nI a)) 32 (nP r2 + 1) (nI b)) 33 (nP r2 + 1) lim) 34 (nP r2 + 1) (dnow r2)) 39 = sS r2 39 := hPm.1 39 rfl
    rw [e70, f70, cl]
    refine ⟨hv1, ?_⟩
    rintro r73 rfl
    have e73 : sS (uI (uI (uJ (uI (uI (uS r50 38 (nI (nP r2 + 1))) 31 (nP r2 + 1) (nI a)) 32 (nP r2 + 1) (nI b)) 33 (nP r2 + 1) lim) 34 (nP r2 + 1) (dnow r2)) 35 (nP r2 + 1) (sS r2 39)) 38 = nI (nP r2 + 1) := rfl
    rw [e73, cl]
    refine ⟨hv1, ?_⟩
    rintro r76 rfl r78 rfl
    refine ⟨fun z => absurd hpf z, fun z => absurd (hpf.symm.trans z) (by decide), fun _ => ⟨rfl, ?_⟩⟩
    exact pe_cS (pe_cI (pe_cI (pe_cI (pe_cJ (pe_cI (pe_cI (pe_cS hPm 38 _) 31 _ _) 32 _ _) 33 _ _) 34 _ _) 35 _ _) 37 _ _) 41 0
  · rw [hPm.1 38 rfl, hc.2.2.1] at hnp
    have hnp' : nP r2 = 100 := (nI_eq (b := 100) (by omega) (by omega)).mp hnp
    exact no _ 10 hPm (by simp [poF, q6, q7, z1, z2, hne, ho, hF, hnp']) (by decide) (by decide)
  · obtain ⟨d, hd, hd2⟩ := Fs_d hF
    have hpf : poF r2 a b lim = 9 := by simp [poF, q6, q7, z1, z2, hne, ho, hF]
    refine (s_draw hS r2 r50 hI (whR r2 a) (whR r2 b) d (by omega) hb.2.1.1 (by omega) hFa hd2 hd).V ?_
    rintro r87 rfl r88 rfl
    have hLe : poL r2 a b = whR r2 a :: pth r2 (Fs r2 (whR r2 a) 100) d (whR r2 b) := by
      unfold poL; rw [hd2, nI_clamp (by omega)]
    have e44 : sS (rg2 r50 (whR r2 a :: pth r2 (Fs r2 (whR r2 a) 100) d (whR r2 b))) 44 = sS r2 44 := hPm.1 44 rfl
    rw [e44]
    refine (cm_ref hS (Pe.rf _) 9).I ?_
    rintro u r92 ⟨rfl, hq⟩
    refine ⟨fun _ z => absurd hpf z, fun _ => ⟨rfl, ?_⟩, fun z => absurd (hpf.symm.trans z) (by decide)⟩
    refine Pe.tr ?_ hq
    unfold poR
    rw [hLe]
    exact pe_cS (pe_cS (pe_rg hPm _) 44 _) 41 9
theorem c_newPost {X : Cx} (w : Wd) (q : Nat) (hK : wK w q = 6) (n : Int32) (ga tk : Nat) (lim : Int64) (qa : Nat) (A : Wd → Prop) (h : A (sR (sJ (sR (sR (sI w 5 0 q n) 5 1 q ga) 5 2 q tk) 5 3 q lim) 5 4 q qa)) : Ct X bX5_init mX5_init [vR q, vI n, vR ga, vR tk, vJ lim, vR qa] w (qV A) := by
  refine oX5_init X _ q n ga tk lim qa w ⟨by rw [hK]; decide, hK, ?_⟩
  rintro w3 rfl w5 rfl w7 rfl w9 rfl w11 rfl
  exact h
set_option maxHeartbeats 4000000 in
theorem sm_post (a b : Int32) (lim : Int64) : SmI bX10_post mX10_post bX11_post mX11_post [vI a, vI b, vJ lim] := by
  intro X w x m r hA
  have hC := hA.2.2.1
  have hI := hA.2.2.2.2
  have hc := hI.1
  have hE := hI.2.2.2.1
  have h4 := hA.2.2.2.1
  have hN := hc.2.1.2
  have hN2 := hc.2.2.2
  have hz := hA.2.1.1
  refine oX10_post X _ x a b lim w ⟨hC.1.1, (c_entryAt w x r a hC hc).R ?_⟩
  rintro aa w1 ⟨rfl, rfl⟩
  refine ⟨hC.1.1, (c_entryAt w1 x r b hC hc).R ?_⟩
  rintro bb w2 ⟨rfl, rfl⟩
  refine ⟨hC.1.1, ?_⟩
  cases hea : entB r a
  · rw [if_neg (by decide)]
    refine oX10_postFault X _ x 0 _ lim w2 ⟨fun _ => ⟨hC.1.1, (c_settle w2 x 1 hC.1.1).I ?_⟩, fun q => absurd rfl q⟩
    rintro v w3 ⟨rfl, rfl⟩
    refine ⟨fun _ => ⟨_, AT_st 1 hA, ?_⟩, fun q => absurd rfl q⟩
    have hS := (AT_st 1 hA).1.1
    refine pX11_post X _ m hS _ a b lim r ((s_isEntry hS r a).I ?_)
    rintro v r1 ⟨rfl, rfl⟩
    rw [hea]
    exact ⟨fun _ => cm_ref hS (Pe.rf _) 1, fun q => absurd rfl q⟩
  obtain ⟨an, rfl, a1, a2⟩ := ent_of hc hea
  have hCa := h4.2.1 an a1 a2
  have h0a := K_nz hz hCa.1.1
  rw [if_pos rfl, nI_clamp (show an < 2 ^ 31 by omega)]
  cases heb : entB r b
  · rw [if_neg (by decide)]
    refine oX10_postFault X _ x _ 0 lim w2 ⟨fun q => absurd q h0a, fun _ => ⟨fun q => absurd rfl q, fun _ => ⟨hC.1.1, (c_settle w2 x 1 hC.1.1).I ?_⟩⟩⟩
    rintro v w3 ⟨rfl, rfl⟩
    refine ⟨fun _ => ⟨_, AT_st 1 hA, ?_⟩, fun q => absurd rfl q⟩
    have hS := (AT_st 1 hA).1.1
    refine pX11_post X _ m hS _ _ b lim r ((s_isEntry hS r _).I ?_)
    rintro v r1 ⟨rfl, rfl⟩
    rw [hea]
    refine ⟨fun q => absurd q (by decide), fun _ => (s_isEntry hS r1 b).I ?_⟩
    rintro v r2 ⟨rfl, rfl⟩
    rw [heb]
    exact ⟨fun q => absurd rfl q, fun _ => cm_ref hS (Pe.rf _) 1⟩
  obtain ⟨bn, rfl, b1, b2⟩ := ent_of hc heb
  have hCb := h4.2.1 bn b1 b2
  have h0b := K_nz hz hCb.1.1
  rw [if_pos rfl, nI_clamp (show bn < 2 ^ 31 by omega)]
  refine (c_postFault hA an bn lim a1 a2 b1 b2).I ?_
  rintro v w3 ⟨rfl, p1, p2⟩
  have hx3 : wK w3 x = 11 := by
    by_cases h9 : poF r an bn lim = 9
    · exact (p2 h9).2.2.1.1.1
    · rw [(p1 h9).1]; exact hC.1.1
  refine ⟨hx3, (c_settle w3 x _ hx3).I ?_⟩
  rintro v w4 ⟨rfl, rfl⟩
  refine ⟨fun hq => ?_, fun hq => ⟨fun q => absurd q h0a, fun _ => ⟨fun _ => ?_, fun q => absurd q h0b⟩⟩⟩
  · rw [bI_0] at hq
    have hne : poF r an bn lim ≠ 0 := by simpa using hq
    by_cases h9 : poF r an bn lim = 9
    · have hT := AT_st (poF r an bn lim) (p2 h9)
      refine ⟨_, hT, (s_postRef hT.1.1 r hI an bn lim a1 a2 b1 b2).I ?_⟩
      rintro u r1 ⟨-, hu, -⟩
      rw [h9]
      exact hu h9
    · have hT := AT_st (poF r an bn lim) (AT_Sc (p1 h9) hA)
      refine ⟨_, hT, (s_postRef hT.1.1 r hI an bn lim a1 a2 b1 b2).I ?_⟩
      rintro u r1 ⟨hu, -⟩
      exact hu hne h9
  rw [bI_n] at hq
  have hzf : poF r an bn lim = 0 := by simpa using hq
  have h9 : poF r an bn lim ≠ 9 := by rw [hzf]; decide
  have hs := p1 h9
  have hA0 := AT_st 0 (AT_Sc hs hA)
  have hnp : nP r < 100 := by
    have : nP r ≠ 100 := fun z => by revert hzf; unfold poF; simp [z]; grind
    omega
  have hab : foR r an = foR r bn ∧ rI r 3 an ≠ 6 ∧ rI r 3 bn ≠ 6 ∧ 0 ≤ lim := by
    have ho : oneB r an bn = true := by
      apply Classical.byContradiction; intro z
      have z' : oneB r an bn = false := by simpa using z
      revert hzf; unfold poF; simp [z']; grind
    refine ⟨?_, fun z => ?_, fun z => ?_, ?_⟩
    · unfold oneB at ho; simp at ho; exact ho.2
    · revert hzf; unfold poF; simp [z]
    · revert hzf; unfold poF; simp [z]
    · apply Classical.byContradiction; intro z
      have : lim < 0 := by rw [Int64.le_iff_toInt_le] at z; rw [Int64.lt_iff_toInt_lt]; omega
      revert hzf; unfold poF; simp [this]; grind
  rw [hzf]
  have ht := today_ne hA0.2.2.2.2.2.2.2.2.2
  have es := (hs.e x).1
  generalize hW0 : sI w3 10 13 x 0 = W0 at *
  have eW : eA W0 x = eA w2 x := by rw [← hW0]; exact es
  rintro q hq0 hq1 w5 rfl
  have gq : Ag W0 (nO W0 5 q) := Ag.nO 5 q hq0
  have zq : wK (nO W0 5 q) 0 = 0 := (nO_z hq1).trans hA0.2.1.1
  have hAq := AG_all gq zq hA0
  refine ⟨hAq.2.2.1.1.1, (c_newAct (nO W0 5 q) x (uS r 41 0) hAq.2.2.1).R ?_⟩
  intro qa w6 hna
  have g6 := hna.2.2.1
  have kq : wK (nO W0 5 q) q = 6 := nO_new
  have k6 : wK w6 q = 6 := (g6 q (kz kq)).1.trans kq
  have i105 : wI (nO W0 5 q) 10 5 x + 1 = nI (nP r + 1) := by
    rw [show wI (nO W0 5 q) 10 5 x = nI (nP r) from hAq.2.2.1.2.1.2.2.1.trans hc.2.2.1]
    exact nI_1 _
  rw [i105]
  refine ⟨kz k6, c_newPost w6 q k6 _ _ _ _ _ _ ?_⟩
  have gall : Ag W0 (sR (sJ (sR (sR (sI w6 5 0 q (nI (nP r + 1))) 5 1 q (eA w2 x an)) 5 2 q (eA w2 x bn)) 5 3 q lim) 5 4 q qa) := ((((gq.tr g6).sI 5 0 q _ hq0).sR 5 1 q _ hq0).sR 5 2 q _ hq0 |>.sJ 5 3 q _ hq0).sR 5 4 q _ hq0
  have hqa : qa ≠ q := fun e => by rw [e] at hna; rw [hna.1] at kq; cases kq
  have q5 : ∀ k, wR w6 5 k q = 0 := fun k => by rw [(g6 q (kz kq)).2.2.2.2.1 5 k]; exact nO_R
  have f7 : wK (sR (sJ (sR (sR (sI w6 5 0 q (nI (nP r + 1))) 5 1 q (eA w2 x an)) 5 2 q (eA w2 x bn)) 5 3 q lim) 5 4 q qa) q = 6 ∧ wI (sR (sJ (sR (sR (sI w6 5 0 q (nI (nP r + 1))) 5 1 q (eA w2 x an)) 5 2 q (eA w2 x bn)) 5 3 q lim) 5 4 q qa) 5 0 q = nI (nP r + 1) ∧ wR (sR (sJ (sR (sR (sI w6 5 0 q (nI (nP r + 1))) 5 1 q (eA w2 x an)) 5 2 q (eA w2 x bn)) 5 3 q lim) 5 4 q qa) 5 1 q = eA w2 x an ∧ wR (sR (sJ (sR (sR (sI w6 5 0 q (nI (nP r + 1))) 5 1 q (eA w2 x an)) 5 2 q (eA w2 x bn)) 5 3 q lim) 5 4 q qa) 5 2 q = eA w2 x bn ∧ wJ (sR (sJ (sR (sR (sI w6 5 0 q (nI (nP r + 1))) 5 1 q (eA w2 x an)) 5 2 q (eA w2 x bn)) 5 3 q lim) 5 4 q qa) 5 3 q = lim ∧ wR (sR (sJ (sR (sR (sI w6 5 0 q (nI (nP r + 1))) 5 1 q (eA w2 x an)) 5 2 q (eA w2 x bn)) 5 3 q lim) 5 4 q qa) 5 4 q = qa ∧ wR (sR (sJ (sR (sR (sI w6 5 0 q (nI (nP r + 1))) 5 1 q (eA w2 x an)) 5 2 q (eA w2 x bn)) 5 3 q lim) 5 4 q qa) 5 5 q = 0 ∧ wR (sR (sJ (sR (sR (sI w6 5 0 q (nI (nP r + 1))) 5 1 q (eA w2 x an)) 5 2 q (eA w2 x bn)) 5 3 q lim) 5 4 q qa) 5 6 q = 0 :=
    ⟨k6, by simp [S_sI, S_sR, S_sJ], by simp [S_sI, S_sR, S_sJ], by simp [S_sI, S_sR, S_sJ], by simp [S_sI, S_sR, S_sJ], by simp [S_sI, S_sR, S_sJ], by simp [S_sI, S_sR, S_sJ]; exact q5 5, by simp [S_sI, S_sR, S_sJ]; exact q5 6⟩
  have zz : wK (sR (sJ (sR (sR (sI w6 5 0 q (nI (nP r + 1))) 5 1 q (eA w2 x an)) 5 2 q (eA w2 x bn)) 5 3 q lim) 5 4 q qa) 0 = 0 := hna.2.2.2.1.trans zq
  have tqa : Ac (sR (sJ (sR (sR (sI w6 5 0 q (nI (nP r + 1))) 5 1 q (eA w2 x an)) 5 2 q (eA w2 x bn)) 5 3 q lim) 5 4 q qa) qa (dnow r) (sS r 39) := by
    have h := hna.2.2.2.2
    refine ⟨fun e => absurd e ht, fun _ => ⟨h.1, ?_, ?_⟩⟩
    · simp [S_sI, S_sR, S_sJ]; exact h.2.1
    · simp [S_sI, S_sR, S_sJ]; exact h.2.2
  generalize hW7 : sR (sJ (sR (sR (sI w6 5 0 q (nI (nP r + 1))) 5 1 q (eA w2 x an)) 5 2 q (eA w2 x bn)) 5 3 q lim) 5 4 q qa = W7 at *
  have hA7 := AG_all gall zz hA0
  have e7 : eA W7 x = eA w2 x := (AG_e gall hA0).1.trans eW
  obtain ⟨pl, hP⟩ := hA7.2.2.2.1.2.2.2.1
  have plF : ∀ y ∈ pl, wK W7 y = 6 ∧ y ≠ q := fun y hy => by
    obtain ⟨i, hi, rfl⟩ := List.mem_iff_getElem.mp hy
    have hi' : i < nP r := by rw [hP.2.1] at hi; exact hi
    have h7 := hP.2.2.2 i hi'
    have e : pl.getD i 0 = pl[i] := by simp [List.getD, hi]
    rw [e] at h7
    refine ⟨h7.1, fun z => ?_⟩
    have h8 := h7.2.1
    rw [z, f7.2.1] at h8
    have := (nI_eq (by omega) (by omega)).mp h8
    omega
  have h107 : wR W7 10 7 x ≠ 0 → wK W7 (wR W7 10 7 x) = 6 := fun hne => by
    rw [hP.2.2.1] at hne ⊢
    cases hl : pl.getLast? with
    | none => rw [hl] at hne; exact absurd rfl hne
    | some y => exact (plF y (List.mem_of_getLast? hl)).1
  have i5 : wI W7 10 5 x = nI (nP r) := hA7.2.2.1.2.1.2.2.1.trans hc.2.2.1
  have fin : ∀ w', w' = sI (sR (if wR W7 10 7 x = 0 then sR W7 10 6 x q else sR W7 5 6 (wR W7 10 7 x) q) 10 7 x q) 10 5 x (nI (nP r + 1)) → wK w' q = 6 ∧ ∃ r', AT w' x m r r' ∧ CM X w' m bX11_post mX11_post [vI (nI an), vI (nI bn), vJ lim] r (pI fun u r1 => u = wI w' 5 0 q ∧ Pe r' r1) := by
    intro w' hw
    have hT := AT_post (r' := uS r 41 0) (lim := lim) hA7 a1 a2 b1 b2 hnp hab ht tqa (q := q) (by rw [e7]; exact f7) pl hP (fun y hy => (plF y hy).2) hw
    have k' : wK w' = wK W7 := by rw [hw]; split <;> rfl
    have i' : wI w' 5 0 q = nI (nP r + 1) := by
      rw [hw]; split <;> exact f7.2.1
    refine ⟨by rw [k']; exact f7.1, _, hT, (s_postRef hT.1.1 r hI an bn lim a1 a2 b1 b2).I ?_⟩
    rintro u r1 ⟨-, -, hu⟩
    obtain ⟨rfl, hp⟩ := hu hzf
    refine ⟨i'.symm, Pe.tr (pe_refl_of ?_) hp⟩
    show uS (psR r (nP r + 1) an bn lim (dnow r) (sS r 39)) 41 0 = psR (uS r 41 0) (nP r + 1) an bn lim (dnow r) (sS r 39)
    unfold psR
    rw [uS_comm r (j := 41) (k := 38) (by decide)]
    rfl
  refine ⟨hA7.2.2.1.1.1, fun hne => ⟨h107 hne, ?_⟩, fun he => ?_⟩
  · rintro w27 rfl w29 rfl w31 hw
    refine fin w31 ?_
    rw [if_neg hne, hw]
    have : wI (sR (sR W7 5 6 (wR W7 10 7 x) q) 10 7 x q) 10 5 x = nI (nP r) := i5
    rw [this, nI_1]
  · rintro w33 rfl w35 rfl w37 hw
    refine fin w37 ?_
    rw [if_pos he, hw]
    have : wI (sR (sR W7 10 6 x q) 10 7 x q) 10 5 x = nI (nP r) := i5
    rw [this, nI_1]
