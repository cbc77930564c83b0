/-! ===== release, the calls ===== -/
def lieF (r : Rs) (n : Nat) (p : Int32) : Int32 := if wrgF r (nI (foR r n)) p ≠ 0 then wrgF r (nI (foR r n)) p else if liesB r (sS r 39) (sS r 39) n p.toNatClampNeg then 0 else 6
theorem wrg_pos {r : Rs} {f p : Int32} (h : wrgF r f p ≠ 0) : ¬ wrgF r f p ≤ 0 := by
  unfold wrgF at h ⊢
  split
  · decide
  · split
    · decide
    · split
      · decide
      · rename_i a b c; rw [if_neg a, if_neg b, if_neg c] at h; exact absurd rfl h
/-- the folio of an entry is there -/
theorem fo_in {r : Rs} (hc : RIc r) (hE : RIE r) {n : Nat} (h1 : 1 ≤ n) (h2 : n ≤ nE r) : ¬ (nI (foR r n) < 0 ∨ sS r 2 ≤ nI (foR r n)) ∧ (nI (foR r n)).toNatClampNeg = foR r n := by
  have hf := (hE n h1 h2).2.2.2.1.1
  have hF := hc.1.2
  refine ⟨fun q => ?_, nI_clamp (by omega)⟩
  rcases q with q | q
  · exact absurd q (nI_pos (by omega))
  · rw [hc.1.1, nI_leI (by omega) (by omega)] at q; omega
theorem c_lieFault {X : Cx} (w : Wd) (x : Nat) (r : Rs) (hz : wK w 0 = 0) (hC : CS w x r) (hI : RI r) (h4 : C4 w x r) (n : Nat) (p : Int32) (h1 : 1 ≤ n) (h2 : n ≤ nE r) : Ct X bX10_lieFault mX10_lieFault [vR x, vR (eA w x n), vI p] w (qI fun v w' => v = lieF r n p ∧ w' = w) := by
  have hc := hI.1
  have hf := hI.2.1
  have hE := hI.2.2.2.1
  have hCe := h4.2.1 n h1 h2
  have h0 := K_nz hz hCe.1.1
  obtain ⟨k1, k2, k3⟩ := whole_of_e hE h4.2.2.1 h1 h2
  have hk := h4.2.2.1 _ k1 k2 k3
  obtain ⟨fi1, fi2⟩ := fo_in hc hE h1 h2
  refine oX10_lieFault X _ x _ p w ⟨fun _ => ?_, fun q => absurd q h0⟩
  rw [hCe.1.2.2.1, hk.1.2.1, ← (hE n h1 h2).2.2.2.1.2.1]
  have hpf := c_parcelFault (X := X) w x r hz hc hf h4.1 (nI (foR r n)) p
  rw [if_neg fi1, fi2] at hpf
  refine ⟨hCe.1.1, hk.1.1, hpf.I ?_⟩
  rintro v w1 ⟨rfl, rfl⟩
  refine ⟨fun h => ⟨hC.1.1, hCe.1.1, ?_⟩, fun h => ⟨by simp [lieF, h], rfl⟩⟩
  obtain ⟨a, b, ea, rfl, ha, hb, hs, hac, hbc, -, -⟩ := wrg0 hc hf h
  have : a = foR r n := by
    have hF := hc.1.2
    have hfo := (hE n h1 h2).2.2.2.1.1
    exact ((nI_eq (by omega) (by omega)).mp ea).symm
  subst this
  refine (c_liesOn w1 x r hz hI ⟨hC, h4.1, h4.2.1, h4.2.2.1, h4.2.2.2.1⟩ ub_all (wR w1 10 8 x) b n hC.1.2.2.2.2.2.2 (by omega) h1 h2).I ?_
  rintro v w2 ⟨rfl, rfl⟩
  rw [hC.2.1.2.2.2.1, hC.2.1.2.2.2.2.1]
  refine ⟨fun hl => ?_, fun hl => ?_⟩
  · rw [bI_0] at hl
    simp [hb] at hl
    simp [lieF, h, hbc, hl]
  · rw [bI_n] at hl
    simp [hb] at hl
    simp [lieF, h, hbc, hl]
theorem sm_release (e p : Int32) : SmI bX10_release mX10_release bX11_release mX11_release [vI e, vI p] := by
  intro X w x m r hA
  have hC := hA.2.2.1
  have hI := hA.2.2.2.2
  have hc := hI.1
  have hf := hI.2.1
  have hE := hI.2.2.2.1
  have h4 := hA.2.2.2.1
  refine oX10_release X _ x e p w ⟨hC.1.1, (c_entryAt w x r e hC hc).R ?_⟩
  rintro a w1 ⟨rfl, rfl⟩
  cases he : entB r e
  · rw [if_neg (by decide)]
    refine ⟨hC.1.1, oX10_lieFault X _ x 0 p w1 ⟨fun q => absurd rfl q, fun _ => ⟨hC.1.1, (c_settle w1 x 1 hC.1.1).I ?_⟩⟩⟩
    rintro v w2 ⟨rfl, rfl⟩
    refine ⟨fun _ => ⟨_, AT_st 1 hA, ?_⟩, fun q => absurd rfl q⟩
    have hS := (AT_st 1 hA).1.1
    refine pX11_release X _ m hS _ e p r ((s_isEntry hS r e).I ?_)
    rintro v r1 ⟨rfl, rfl⟩
    rw [he]
    exact ⟨fun q => absurd rfl q, fun _ => cm_no hS (Pe.rf _) 1⟩
  · rw [if_pos rfl]
    obtain ⟨n, rfl, h1, h2⟩ := ent_of hc he
    have hN := hc.2.1.2
    have hnc : (nI n).toNatClampNeg = n := nI_clamp (by omega)
    have hvn : vp_in (nI n) 301 := inN (by omega) (by omega)
    rw [hnc]
    have hCe := h4.2.1 n h1 h2
    have h0 := K_nz hA.2.1.1 hCe.1.1
    refine ⟨hC.1.1, (c_lieFault w1 x r hA.2.1.1 hC hI h4 n p h1 h2).I ?_⟩
    rintro v w2 ⟨rfl, rfl⟩
    refine ⟨hC.1.1, (c_settle w2 x _ hC.1.1).I ?_⟩
    rintro v w3 ⟨rfl, rfl⟩
    -- the reference
    have ref : ∀ (w' : Wd), Sh w' m → CM X w' m bX11_release mX11_release [vI (nI n), vI p] r (pI fun u r1 => (lieF r n p ≠ 0 → u = 0 ∧ Pe (uS r 41 (lieF r n p)) r1) ∧ (lieF r n p = 0 → u = 1 ∧ Pe (uI (uI (uS r 41 0) 28 (60 * n + p.toNatClampNeg) (dnow r)) 29 (60 * n + p.toNatClampNeg) (sS r 39)) r1)) := by
      intro w' hS
      have no : ∀ (r' : Rs) (f : Int32), Pe r r' → lieF r n p = f → f ≠ 0 → CM X w' m bX11_no mX11_no [vI f] r' (pI fun x7 r9 => (x7 = 0 ∨ x7 = 1) ∧ (lieF r n p ≠ 0 → x7 = 0 ∧ Pe (uS r 41 (lieF r n p)) r9) ∧ (lieF r n p = 0 → x7 = 1 ∧ Pe (uI (uI (uS r 41 0) 28 (60 * n + p.toNatClampNeg) (dnow r)) 29 (60 * n + p.toNatClampNeg) (sS r 39)) r9)) := by
        intro r' f h hpf hf0
        refine (cm_no hS h f).I ?_
        rintro u r1 ⟨h01, rfl, hq⟩
        rw [hpf]
        exact ⟨h01, fun _ => ⟨rfl, hq⟩, fun q => absurd q hf0⟩
      refine pX11_release X w' m hS _ _ p r ((s_isEntry hS r _).I ?_)
      rintro v r1 ⟨rfl, rfl⟩
      rw [he, hnc, (hE n h1 h2).1.1]
      refine ⟨fun _ => ⟨hvn, (s_wrong hS r1 hc hf _ p).I ?_⟩, fun q => absurd q (by decide)⟩
      rintro v r2 ⟨rfl, rfl⟩
      refine ⟨fun hw => ?_, fun hw => no _ _ (Pe.rf _) ?_ ?_⟩
      · have hw0 : wrgF r2 (nI (foR r2 n)) p = 0 := Classical.byContradiction fun z => wrg_pos z hw
        obtain ⟨a, b, ea, rfl, ha, hb, hs, hac, hbc, -, -⟩ := wrg0 hc hf hw0
        have : a = foR r2 n := by
          have hF := hc.1.2
          have hfo := (hE n h1 h2).2.2.2.1.1
          exact ((nI_eq (by omega) (by omega)).mp ea).symm
        subst this
        rw [hbc] at no ⊢
        refine (s_now hS r2).V ?_
        rintro r3 rfl
        have hP : Pe r2 (uS (uS r2 45 (sS r2 39)) 46 (sS r2 39)) := pe_now (Pe.rf _) _ _
        have hI3 := RI_mv hP hI
        refine (s_lies hS _ hI3.1 hI3.2.2.2.1 n b (by omega) h1 (by rw [hP.nn.2.1]; exact h2)).I ?_
        rintro v r4 ⟨rfl, rfl⟩
        rw [hP.lies]
        have hs45 : sS (uS (uS r2 45 (sS r2 39)) 46 (sS r2 39)) 45 = sS r2 39 := rfl
        have hs46 : sS (uS (uS r2 45 (sS r2 39)) 46 (sS r2 39)) 46 = sS r2 39 := rfl
        rw [hs45, hs46]
        refine ⟨fun hl => (s_dateNow hS _).I ?_, fun hl => no _ 6 hP ?_ (by decide)⟩
        · rw [bI_n] at hl
          rintro v r5 ⟨rfl, rfl⟩
          rw [hP.dn, nI60, nI_clamp (show 60 * n + b < 2 ^ 31 by omega)]
          have hpf : lieF r2 n (nI b) = 0 := by simp [lieF, hw0, hbc, hl]
          refine ⟨inN (by omega) (by omega), ?_⟩
          rintro r6 rfl
          refine ⟨inN (by omega) (by omega), ?_⟩
          rintro r7 rfl r8 rfl
          exact ⟨fun z => absurd hpf z, fun _ => ⟨rfl, pe_cS (pe_cI (pe_cI hP 28 (60 * n + b) (dnow r2)) 29 (60 * n + b) (sS r2 39)) 41 0⟩⟩
        · rw [bI_0] at hl
          simp [lieF, hw0, hbc, hl]
      · have : wrgF r2 (nI (foR r2 n)) p ≠ 0 := fun z => hw (by rw [z]; decide)
        simp [lieF, this]
      · exact fun z => hw (by rw [z]; decide)
    refine ⟨fun hq => ?_, fun hq => ⟨fun _ => ⟨hC.1.1, ?_⟩, fun q => absurd q h0⟩⟩
    · rw [bI_0] at hq
      have hne : lieF r n p ≠ 0 := by simpa using hq
      refine ⟨_, AT_st (lieF r n p) hA, (ref _ (AT_st (lieF r n p) hA).1.1).I ?_⟩
      rintro u r1 ⟨hu, -⟩
      exact hu hne
    · rw [bI_n] at hq
      have hz : lieF r n p = 0 := by simpa using hq
      rw [hz]
      have hA0 := AT_st 0 hA
      have hw0 : wrgF r (nI (foR r n)) p = 0 := by
        apply Classical.byContradiction
        intro z
        rw [lieF, if_pos z] at hz
        exact z hz
      refine (c_newAct (sI w2 10 13 x 0) x (uS r 41 0) hA0.2.2.1).R ?_
      intro q w4 hna
      have hA4 := hna.AT hA0
      obtain ⟨a, b, ea, rfl, ha, hb, hs, hac, hbc, -, -⟩ := wrg0 hc hf hw0
      have : a = foR r n := by
        have hF := hc.1.2
        have hfo := (hE n h1 h2).2.2.2.1.1
        exact ((nI_eq (by omega) (by omega)).mp ea).symm
      subst this
      have he4 : eA w4 x n = eA w2 x n := by rw [(AG_e hna.2.2.1 hA0).1]; rfl
      have hrr := c_recRel (X := X) w4 x m n b q r (uS r 41 0) (dnow r) (sS r 39) hA4 hna.2.2.2.2.1 (hna.Ac (today_ne hA0.2.2.2.2.2.2.2.2.2)) h1 h2 hb
      rw [he4] at hrr
      refine ⟨by have := (hA4.2.2.2.1.2.1 n h1 h2).1.1; rw [he4] at this; exact this, hrr.V ?_⟩
      intro w5 hT
      refine ⟨_, hT, (ref _ hT.1.1).I ?_⟩
      rintro u r1 ⟨-, hu⟩
      have := hu hz
      rw [hbc] at this
      exact this
