/-! ===== newAct; strike ===== -/
theorem pe_cS {r r' : Rs} (h : Pe r r') (k : Nat) (v : Int32) : Pe (uS r k v) (uS r' k v) := ⟨fun j hj => by rw [(R_uS r k v).2.2.2, (R_uS r' k v).2.2.2, h.1 j hj], h.2.1, h.2.2.1, h.2.2.2⟩
theorem pe_cI {r r' : Rs} (h : Pe r r') (k i : Nat) (v : Int32) : Pe (uI r k i v) (uI r' k i v) := ⟨h.1, h.2.1, fun j hj => by funext n; rw [(R_uI r k i v).2.2.2, (R_uI r' k i v).2.2.2, h.2.2.1 j hj], h.2.2.2⟩
theorem pe_cJ {r r' : Rs} (h : Pe r r') (k i : Nat) (v : Int64) : Pe (uJ r k i v) (uJ r' k i v) := ⟨h.1, h.2.1, h.2.2.1, fun j hj => by funext n; rw [(R_uJ r k i v).2.2.2, (R_uJ r' k i v).2.2.2, h.2.2.2 j hj]⟩
/-- a new act q in w' -/
def NA (w w' : Wd) (q : Nat) (d k : Int32) : Prop := wK w q = 0 ∧ q ≠ 0 ∧ Ag w w' ∧ wK w' 0 = wK w 0 ∧ wK w' q = 1 ∧ wI w' 0 0 q = d ∧ wI w' 0 1 q = k
theorem c_newAct {X : Cx} (w : Wd) (x : Nat) (r : Rs) (hC : CS w x r) : Ct X bX10_newAct mX10_newAct [vR x] w (qR fun q w' => NA w w' q (dnow r) (sS r 39)) := by
  refine oX10_newAct X _ x w ?_
  rintro q hq hq0 w2 rfl
  have hx : x ≠ q := fun e => by rw [← e, hC.1.1] at hq; cases hq
  have hn : wR w 10 8 x ≠ q := fun e => by rw [← e, hC.1.2.2.2.2.2.2] at hq; cases hq
  have gx := (Ag.nO (w := w) 0 q hq) x (by rw [hC.1.1]; decide)
  have gn := (Ag.nO (w := w) 0 q hq) (wR w 10 8 x) (by rw [hC.1.2.2.2.2.2.2]; decide)
  rw [gx.2.2.2.2.1, gx.1, gn.1, gx.2.2.1, gn.2.2.1, hC.2.1.2.2.2.2.2.1, hC.2.1.2.2.2.1]
  refine ⟨hC.1.1, hC.1.2.2.2.2.2.2, oX0_init X _ q _ _ _ ⟨by rw [nO_new]; decide, nO_new, ?_⟩⟩
  rintro w3 rfl w5 rfl
  refine ⟨hq, hq0, ((Ag.nO (w := w) 0 q hq).sI 0 0 q _ hq).sI 0 1 q _ hq, ?_, nO_new, ?_, ?_⟩
  · show wK (nO w 0 q) 0 = _
    rw [(S_nO w 0 q).2.2.2.2.1, if_neg (fun e => hq0 e.symm)]
  · simp [S_sI]
  · simp [S_sI]
theorem NA.Ac {w w' : Wd} {q : Nat} {d k : Int32} (h : NA w w' q d k) (hk : k ≠ -1) : Ac w' q d k := ⟨fun e => absurd e hk, fun _ => h.2.2.2.2⟩
theorem NA.AT {w w' : Wd} {x m q : Nat} {r r' : Rs} {d k : Int32} (h : NA w w' q d k) (hA : AT w x m r r') : AT w' x m r r' := AG_all h.2.2.1 (h.2.2.2.1.trans hA.2.1.1) hA
theorem AG_e {w w' : Wd} {x m : Nat} {r r' : Rs} (hg : Ag w w') (h : AT w x m r r') : eA w' x = eA w x ∧ fA w' x = fA w x ∧ ∀ k, 1 ≤ k → k ≤ nE r' → wA w' x k = wA w x k := by
  have hC := h.2.2.1
  have gx := hg x (by rw [hC.1.1]; decide)
  have ga := hg (wR w 10 0 x) (by rw [hC.1.2.1]; decide)
  have gb := hg (wR w 10 1 x) (by rw [hC.1.2.2.2.1]; decide)
  have ee : eA w' x = eA w x := by funext f; unfold eA; rw [gx.2.2.2.2.1, gb.2.2.2.2.2.2.2]
  refine ⟨ee, by funext f; unfold fA; rw [gx.2.2.2.2.1, ga.2.2.2.2.2.2.2], fun k a b => ?_⟩
  have g := hg (eA w x k) (by rw [(h.2.2.2.1.2.1 k a b).1.1]; decide)
  unfold wA
  rw [ee, g.2.2.2.2.1]
theorem wA_inj {w : Wd} {x : Nat} {r : Rs} (hc : RIc r) (hE : CE w x r) (hW : CW w x r) {k k' : Nat} (a : 1 ≤ k) (b : k ≤ nE r) (c : paR r k = 0) (a' : 1 ≤ k') (b' : k' ≤ nE r) (c' : paR r k' = 0) (h : wA w x k = wA w x k') : k = k' := by
  have h1 := (hW k a b c).1.2.2.2.1
  have h2 := (hW k' a' b' c').1.2.2.2.1
  rw [h, h2] at h1
  exact (eA_inj hc hE a' b' a b h1).symm
theorem today_ne {r : Rs} (h : RId r) : sS r 39 ≠ -1 := fun e => by have := h.1; rw [e] at this; exact absurd this (by decide)
theorem chF_W {r r' : Rs} (h4 : rI r' 4 = rI r 4) (h6 : rI r' 6 = rI r 6) (h13 : rI r' 13 = rI r 13) (hn : nE r' = nE r) (f : Nat) : chF r' f = chF r f := by
  have h1 : ∀ n, chN r' f n = chN r f n := by
    intro n
    induction n with
    | zero => rfl
    | succ n ih =>
      unfold chN insW paR foR ix
      rw [ih, h4, h6, h13]
  unfold chF
  rw [hn]
  exact h1 _
theorem CF_R {w w' : Wd} {x : Nat} {r r' : Rs} (h1 : wK w' = wK w) (h2 : fA w' x = fA w x) (h2' : wA w' x = wA w x) (h3 : wI w' 3 = wI w 3) (h4 : wJ w' 3 = wJ w 3) (h5 : wR w' 3 = wR w 3) (h6 : wR w' 9 12 = wR w 9 12) (h7 : wR w' 9 11 = wR w 9 11) (r0 : rI r' 0 = rI r 0) (r1 : rI r' 1 = rI r 1) (r4 : rI r' 4 = rI r 4) (r6 : rI r' 6 = rI r 6) (r13 : rI r' 13 = rI r 13) (rn : nE r' = nE r) (rf : nF r' = nF r) (h : CF w x r) : CF w' x r' := by
  unfold CF at *
  simp only [h2, h2', h1, h3, h4, h5, h6, h7, r0, r1, rf, chF_W r4 r6 r13 rn]
  exact h
theorem AT_strike {w : Wd} {x m q n : Nat} {r r' : Rs} {d k : Int32} (hA : AT w x m r r') (hq : Ac w q d k) (h1 : 1 ≤ n) (h2 : n ≤ nE r') (h3 : paR r' n = 0) : AT (sR w 9 4 (wA w x n) q) x m r (uI (uI r' 15 n d) 16 n k) := by
  obtain ⟨hM, hD, hC, ⟨hF, hE, hW, ⟨pl, hP⟩, hX⟩, hI⟩ := hA
  refine ⟨MO_sR 9 4 _ q (by decide) hM, hD, hC, ⟨CF_R (w := w) (r := r') rfl rfl rfl rfl rfl rfl rfl rfl rfl rfl rfl rfl rfl rfl rfl hF, hE, fun j a b c => ?_, ⟨pl, hP⟩, hX⟩, hI⟩
  have h := hW j a b c
  refine ⟨h.1, ⟨h.2.1.1, h.2.1.2.1, ?_⟩, h.2.2.1, h.2.2.2.1, h.2.2.2.2⟩
  show Ac w (if 9 = 9 ∧ 4 = 4 ∧ wA w x j = wA w x n then q else wR w 9 4 (wA w x j)) (if 15 = 15 ∧ j = n then d else rI r' 15 j) (if 16 = 16 ∧ j = n then k else rI r' 16 j)
  by_cases hj : j = n
  · subst hj; simpa using hq
  · have : wA w x j ≠ wA w x n := fun e => hj (wA_inj hI.1 hE hW a b c h1 h2 h3 e)
    simp [hj, this, h.2.1.2.2]
def strF (r : Rs) (n : Nat) : Int32 := if paR r n ≠ 0 then 4 else if livB r (sS r 39) (sS r 39) n = false then 6 else if ¬ rI r 13 n ≤ dnow r then 8 else 0
theorem c_strikeFault {X : Cx} (w : Wd) (x : Nat) (r : Rs) (hz : wK w 0 = 0) (hC : CS w x r) (hI : RI r) (h4 : C4 w x r) (n : Nat) (h1 : 1 ≤ n) (h2 : n ≤ nE r) : Ct X bX10_strikeFault mX10_strikeFault [vR x, vR (eA w x n)] w (qI fun v w' => v = strF r n ∧ w' = w) := by
  obtain ⟨hc, hf, hb, hE, hp, hd⟩ := hI
  have hCe := h4.2.1 n h1 h2
  obtain ⟨k1, k2, k3⟩ := whole_of_e hE h4.2.2.1 h1 h2
  have hk := h4.2.2.1 _ k1 k2 k3
  have h0 := K_nz hz hCe.1.1
  refine oX10_strikeFault X _ x _ w ⟨fun _ => ?_, fun q => absurd q h0⟩
  rw [hCe.1.2.2.2]
  refine ⟨hCe.1.1, fun hp0 => ⟨hC.1.1, ?_⟩, fun hp0 => ?_⟩
  · have hp1 : paR r n = 0 := by
      by_cases hpa : paR r n = 0
      · exact hpa
      · rw [if_neg hpa] at hp0
        exact absurd hp0 (K_nz hz (h4.2.1 _ (by omega) (by have := (hE n h1 h2).2.2.1.1; omega)).1.1)
    have hwn : whR r n = n := (hE n h1 h2).2.1.2.2.2.1.mp hp1
    rw [hCe.1.2.2.1]
    refine ⟨hk.1.1, (c_livesE w x r hz hC hE h4.2.2.1 n h1 h2).I ?_⟩
    rintro v w1 ⟨rfl, rfl⟩
    have ha2 := hk.2.1.2.1.2 hk.2.1.1
    rw [hCe.1.2.2.1, ha2.2.1, hC.2.1.2.2.2.2.2.1, hwn]
    rw [hwn] at ha2
    refine ⟨fun hl => ⟨hC.1.1, hCe.1.1, by rw [hwn] at hk; exact hk.1.1, ha2.1, fun hle => ?_, fun hle => ?_⟩, fun hl => ?_⟩
    · rw [bI_n] at hl; simp [strF, hp1, hl, hle]
    · rw [bI_n] at hl; simp [strF, hp1, hl, hle]
    · rw [bI_0] at hl; simp [strF, hp1, hl]
  · have hp1 : paR r n ≠ 0 := fun e => hp0 (by rw [if_pos e])
    simp [strF, hp1]
theorem s_strikeRef {X : Cx} {w0 : Wd} {m : Nat} (hS : Sh w0 m) (r : Rs) (hI : RI r) (n : Nat) (h1 : 1 ≤ n) (h2 : n ≤ nE r) : CM X w0 m bX11_strike mX11_strike [vI (nI n)] r (pI fun u r1 => (strF r n ≠ 0 → u = 0 ∧ Pe (uS r 41 (strF r n)) r1) ∧ (strF r n = 0 → u = 1 ∧ Pe (uI (uI (uS r 41 0) 15 n (dnow r)) 16 n (sS r 39)) r1)) := by
  obtain ⟨hc, hf, hb, hE, hp, hd⟩ := hI
  have hN := hc.2.1.2
  have hnc : (nI n).toNatClampNeg = n := nI_clamp (by omega)
  have hv : vp_in (nI n) 301 := inN (by omega) (by omega)
  have hIn := hE n h1 h2
  have no : ∀ (r' : Rs) (f : Int32), Pe r r' → strF r n = f → f ≠ 0 → CM X w0 m bX11_no mX11_no [vI f] r' (pI fun x7 r9 => (x7 = 0 ∨ x7 = 1) ∧ (strF r n ≠ 0 → x7 = 0 ∧ Pe (uS r 41 (strF r n)) r9) ∧ (strF r n = 0 → x7 = 1 ∧ Pe (uI (uI (uS r 41 0) 15 n (dnow r)) 16 n (sS r 39)) r9)) := by
    intro r' f h hpf hf0
    refine (cm_no hS h f).I ?_
    rintro u r1 ⟨h01, rfl, hq⟩
    rw [hpf]
    exact ⟨h01, fun _ => ⟨rfl, hq⟩, fun q => absurd q hf0⟩
  refine pX11_strike X w0 m hS _ _ r ((s_isEntry hS r _).I ?_)
  rintro v r1 ⟨rfl, rfl⟩
  rw [ent_nI hc h1 h2, hnc, hIn.1.2.2.1, nI_z (show paR r1 n < 2 ^ 31 by have := hIn.2.2.1.1; omega)]
  refine ⟨fun _ => ⟨hv, fun q => (s_livesNow hS r1 hc hE n h1 h2).I ?_, fun q => no r1 4 (Pe.rf _) (by simp [strF, q]) (by decide)⟩, fun q => absurd q (by decide)⟩
  rintro v r2 ⟨rfl, rfl⟩
  have hP2 : Pe r1 (uS (uS r1 45 (sS r1 39)) 46 (sS r1 39)) := pe_now (Pe.rf _) _ _
  refine ⟨fun hl => (s_dateNow hS _).I ?_, fun hl => no _ 6 hP2 (by rw [bI_0] at hl; simp [strF, q, hl]) (by decide)⟩
  rw [bI_n] at hl
  rintro v r3 ⟨rfl, rfl⟩
  rw [hP2.2.2.1 13 rfl, hP2.dn]
  refine ⟨hv, fun hle => (s_dateNow hS _).I ?_, fun hle => no _ 8 hP2 (by simp [strF, q, hl, hle]) (by decide)⟩
  rintro v r4 ⟨rfl, rfl⟩
  rw [hP2.dn]
  have hpf : strF r1 n = 0 := by simp [strF, q, hl, hle]
  refine ⟨hv, ?_⟩
  rintro r5 rfl
  refine ⟨hv, ?_⟩
  rintro r6 rfl r7 rfl
  exact ⟨fun z => absurd hpf z, fun _ => ⟨rfl, pe_cS (pe_cI (pe_cI hP2 15 n (dnow r1)) 16 n (sS r1 39)) 41 0⟩⟩
theorem sm_strike (e : Int32) : SmI bX10_strike mX10_strike bX11_strike mX11_strike [vI e] := by
  intro X w x m r hA
  have hC := hA.2.2.1
  have hc := hA.2.2.2.2.1
  have h4 := hA.2.2.2.1
  refine oX10_strike X _ x e w ⟨hC.1.1, (c_entryAt w x r e hC hc).R ?_⟩
  rintro a w1 ⟨rfl, rfl⟩
  cases he : entB r e
  · rw [if_neg (by decide)]
    refine ⟨hC.1.1, oX10_strikeFault X _ x 0 w1 ⟨fun q => absurd rfl q, fun _ => ⟨hC.1.1, (c_settle w1 x 1 hC.1.1).I ?_⟩⟩⟩
    rintro v w2 ⟨rfl, rfl⟩
    refine ⟨fun _ => ⟨_, AT_st 1 hA, ?_⟩, fun q => absurd rfl q⟩
    have hS := (AT_st 1 hA).1.1
    refine pX11_strike X _ m hS _ e r ((s_isEntry hS r e).I ?_)
    rintro v r1 ⟨rfl, rfl⟩
    rw [he]
    exact ⟨fun q => absurd rfl q, fun _ => cm_no hS (Pe.rf _) 1⟩
  · rw [if_pos rfl]
    obtain ⟨n, rfl, h1, h2⟩ := ent_of hc he
    have hN := hc.2.1.2
    have hnc : (nI n).toNatClampNeg = n := nI_clamp (by omega)
    rw [hnc]
    have hCe := h4.2.1 n h1 h2
    have h0 := K_nz hA.2.1.1 hCe.1.1
    refine ⟨hC.1.1, (c_strikeFault w1 x r hA.2.1.1 hC hA.2.2.2.2 h4 n h1 h2).I ?_⟩
    rintro v w2 ⟨rfl, rfl⟩
    refine ⟨hC.1.1, (c_settle w2 x _ hC.1.1).I ?_⟩
    rintro v w3 ⟨rfl, rfl⟩
    refine ⟨fun hq => ?_, fun hq => ⟨fun _ => ⟨hCe.1.1, hC.1.1, ?_⟩, fun q => absurd q h0⟩⟩
    · rw [bI_0] at hq
      have hne : strF r n ≠ 0 := by simpa using hq
      refine ⟨_, AT_st (strF r n) hA, (s_strikeRef (AT_st (strF r n) hA).1.1 r hA.2.2.2.2 n h1 h2).I ?_⟩
      rintro u r1 ⟨hu, -⟩
      exact hu hne
    · rw [bI_n] at hq
      have hz : strF r n = 0 := by simpa using hq
      rw [hz]
      have hA0 := AT_st 0 hA
      have hpa : paR r n = 0 := by
        by_cases h : paR r n = 0
        · exact h
        · rw [strF, if_pos h] at hz; cases hz
      have hwn : whR r n = n := (hA.2.2.2.2.2.2.2.1 n h1 h2).2.1.2.2.2.1.mp hpa
      refine (c_newAct (sI w2 10 13 x 0) x (uS r 41 0) hA0.2.2.1).R ?_
      intro q w4 hna
      have hA4 := hna.AT hA0
      have hw : wR (sI w2 10 13 x 0) 2 1 (eA w2 x n) = wA w4 x n := by
        rw [(AG_e hna.2.2.1 hA0).2.2 n h1 h2]; rfl
      rw [hw]
      refine ⟨(hA4.2.2.2.1.2.2.1 n h1 h2 hpa).1.1, ?_⟩
      rintro w5 rfl
      have hT := AT_strike (r' := uS r 41 0) hA4 (hna.Ac (today_ne hA0.2.2.2.2.2.2.2.2.2)) h1 h2 hpa
      refine ⟨_, hT, (s_strikeRef hT.1.1 r hA.2.2.2.2 n h1 h2).I ?_⟩
      rintro u r1 ⟨-, hu⟩
      exact hu hz
