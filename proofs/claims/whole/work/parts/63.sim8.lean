/-! ===== wrong and parcelFault; tear, day, undo ===== -/
def wrgF (r : Rs) (f p : Int32) : Int32 := if f < 0 ∨ sS r 2 ≤ f then 1 else if p < 0 ∨ rI r 0 f.toNatClampNeg ≤ p then 2 else if ¬ rI r 1 (60 * f.toNatClampNeg + p.toNatClampNeg) = 0 then 3 else 0
/-- a folio and a parcel of it, as Nats -/
theorem par_of {r : Rs} (hc : RIc r) (hf : RIf r) {f p : Int32} (h0 : ¬ (f < 0 ∨ sS r 2 ≤ f)) (h1 : ¬ (p < 0 ∨ rI r 0 f.toNatClampNeg ≤ p)) : ∃ a b, f = nI a ∧ p = nI b ∧ a < nF r ∧ b < ix r 0 a ∧ ix r 0 a ≤ 60 ∧ (nI a).toNatClampNeg = a ∧ (nI b).toNatClampNeg = b := by
  obtain ⟨a, rfl, ha⟩ := fol_of hc (fun q => h0 (Or.inl q)) (fun q => h0 (Or.inr q))
  have hF := hc.1.2
  have hac : (nI a).toNatClampNeg = a := nI_clamp (by omega)
  have hs := hf a ha
  obtain ⟨b, hb, rfl⟩ := nI_of (x := p) (fun q => h1 (Or.inl q))
  have h2 : ¬ rI r 0 (nI a).toNatClampNeg ≤ nI b := fun q => h1 (Or.inr q)
  rw [hac, hs.1, nI_leI (by omega) (by omega)] at h2
  exact ⟨a, b, rfl, rfl, ha, by omega, hs.2.2, hac, nI_clamp (by omega)⟩
theorem s_wrong {X : Cx} {w0 : Wd} {m : Nat} (hS : Sh w0 m) (r : Rs) (hc : RIc r) (hf : RIf r) (f p : Int32) : CM X w0 m bX11_wrong mX11_wrong [vI f, vI p] r (pI fun v r1 => v = wrgF r f p ∧ r1 = r) := by
  refine pX11_wrong X w0 m hS _ f p r ⟨fun h => ⟨by simp [wrgF, h], rfl⟩, fun h => ⟨fun h1 => ⟨fun h2 => ?_, fun h2 => ?_⟩, fun h1 => ⟨by rw [le_nlt] at h1; simp [wrgF, h1], rfl⟩⟩⟩
  · rw [← lt_nle] at h1
    simp [wrgF, h, h1, h2]
  · rw [← lt_nle] at h1
    obtain ⟨a, rfl, ha⟩ := fol_of hc h h1
    have hF := hc.1.2
    have hac : (nI a).toNatClampNeg = a := nI_clamp (by omega)
    refine ⟨inN (by omega) (by omega), fun h3 => ?_, fun h3 => ⟨by rw [le_nlt] at h3; simp [wrgF, h, h1, h3], rfl⟩⟩
    rw [← lt_nle] at h3
    obtain ⟨a', b, e1, rfl, ha', hb, hs, -, hbc⟩ := par_of hc hf (f := nI a) (p := p) (fun q => q.elim h h1) (fun q => q.elim h2 h3)
    have : a' = a := ((nI_eq (by omega) (by omega)).mp e1).symm
    subst this
    rw [nI60, nI_clamp (show 60 * a' + b < 2 ^ 31 by omega)]
    have n0 : ¬ (nI a' < 0 ∨ sS r 2 ≤ nI a') := fun q => q.elim h h1
    have n1 : ¬ (nI b < 0 ∨ rI r 0 (nI a').toNatClampNeg ≤ nI b) := fun q => q.elim h2 h3
    refine ⟨inN (by omega) (by omega), fun h4 => ⟨?_, rfl⟩, fun h4 => ⟨?_, rfl⟩⟩
    · rw [wrgF, if_neg n0, if_neg n1, hac, hbc]; simp [h4]
    · rw [wrgF, if_neg n0, if_neg n1, hac, hbc]; simp [h4]
theorem c_parcelFault {X : Cx} (w : Wd) (x : Nat) (r : Rs) (hz : wK w 0 = 0) (hc : RIc r) (hf : RIf r) (hF : CF w x r) (f p : Int32) : Ct X bX10_parcelFault mX10_parcelFault [vR (if f < 0 ∨ sS r 2 ≤ f then 0 else fA w x f.toNatClampNeg), vI p] w (qI fun v w' => v = wrgF r f p ∧ w' = w) := by
  by_cases h0 : f < 0 ∨ sS r 2 ≤ f
  · rw [if_pos h0]
    exact oX10_parcelFault X _ 0 p w ⟨fun q => absurd rfl q, fun _ => ⟨by simp [wrgF, h0], rfl⟩⟩
  · rw [if_neg h0]
    obtain ⟨a, rfl, ha⟩ := fol_of hc (fun q => h0 (Or.inl q)) (fun q => h0 (Or.inr q))
    have hFa := hF a ha
    have hac : (nI a).toNatClampNeg = a := nI_clamp (by have := hc.1.2; omega)
    rw [hac]
    refine oX10_parcelFault X _ _ p w ⟨fun _ => ⟨hFa.1, (c_hasParcel w _ p hFa.1).I ?_⟩, fun q => absurd q (K_nz hz hFa.1)⟩
    rintro v w1 ⟨rfl, rfl⟩
    rw [hFa.2.2.1]
    refine ⟨fun h => ⟨hFa.1, ?_⟩, fun h => ?_⟩
    · rw [bI_n] at h
      simp only [Bool.and_eq_true, Bool.not_eq_true', decide_eq_false_iff_not] at h
      have h1 : ¬ (p < 0 ∨ rI r 0 (nI a).toNatClampNeg ≤ p) := by rw [hac]; exact fun q => q.elim h.1 h.2
      obtain ⟨a', b, e1, rfl, ha', hb, hs, -, hbc⟩ := par_of hc hf h0 h1
      have : a' = a := ((nI_eq (by have := hc.1.2; omega) (by have := hc.1.2; omega)).mp e1).symm
      subst this
      refine (c_isTorn w1 _ b hFa.1).I ?_
      rintro v w2 ⟨rfl, rfl⟩
      rw [hFa.2.2.2.1 b (by omega)]
      refine ⟨fun h2 => ?_, fun h2 => ?_⟩
      · rw [bI_0] at h2
        have h2 : rI r 1 (60 * a' + b) = 0 := by simpa using h2
        rw [wrgF, if_neg h0, if_neg h1, hac, hbc]
        simp [h2]
      · rw [bI_n] at h2
        have h2 : ¬ rI r 1 (60 * a' + b) = 0 := by simpa using h2
        rw [wrgF, if_neg h0, if_neg h1, hac, hbc]
        simp [h2]
    · rw [bI_0] at h
      have h1 : p < 0 ∨ rI r 0 (nI a).toNatClampNeg ≤ p := by
        rw [hac]
        by_cases q : p < 0
        · exact Or.inl q
        · simp [q] at h; exact Or.inr h
      rw [wrgF, if_neg h0, if_pos h1]
      exact ⟨rfl, rfl⟩
theorem wrg0 {r : Rs} (hc : RIc r) (hf : RIf r) {f p : Int32} (h : wrgF r f p = 0) : ∃ a b, f = nI a ∧ p = nI b ∧ a < nF r ∧ b < ix r 0 a ∧ ix r 0 a ≤ 60 ∧ (nI a).toNatClampNeg = a ∧ (nI b).toNatClampNeg = b ∧ ¬ (nI a < 0 ∨ sS r 2 ≤ nI a) ∧ rI r 1 (60 * a + b) = 0 := by
  unfold wrgF at h
  by_cases h0 : f < 0 ∨ sS r 2 ≤ f
  · rw [if_pos h0] at h; cases h
  · rw [if_neg h0] at h
    by_cases h1 : p < 0 ∨ rI r 0 f.toNatClampNeg ≤ p
    · rw [if_pos h1] at h; cases h
    · rw [if_neg h1] at h
      obtain ⟨a, b, rfl, rfl, c, d, e, g, i⟩ := par_of hc hf h0 h1
      rw [g, i] at h
      by_cases h2 : rI r 1 (60 * a + b) = 0
      · exact ⟨a, b, rfl, rfl, c, d, e, g, i, h0, h2⟩
      · rw [if_pos h2] at h; cases h
theorem fA_inj {w : Wd} {x : Nat} {r : Rs} (hc : RIc r) (hF : CF w x r) {a b : Nat} (h1 : a < nF r) (h2 : b < nF r) (h : fA w x a = fA w x b) : a = b := by
  have ha := (hF a h1).2.1
  have hb := (hF b h2).2.1
  rw [h, hb] at ha
  exact ((nI_eq (by have := hc.1.2; omega) (by have := hc.1.2; omega)).mp ha).symm
theorem AT_tear {w : Wd} {x m a b : Nat} {r r' : Rs} (hA : AT w x m r r') (ha : a < nF r') (hb : b < 60) : AT (sJ w 3 2 (fA w x a) ((wJ w 3 2 (fA w x a)) ||| ((1 : Int64) <<< ((nI b).toInt64 &&& 63)))) x m r (uI r' 1 (60 * a + b) 1) := by
  obtain ⟨hM, hD, hC, ⟨hF, hE, hW, ⟨pl, hP⟩, hX⟩, hI⟩ := hA
  refine ⟨MO_sJ 3 2 _ _ (by decide) hM, hD, hC, ⟨fun f hf => ?_, hE, hW, ⟨pl, hP⟩, hX⟩, hI.1, hI.2.1, ⟨fun i => ?_, hI.2.2.1.2.1, fun f p hf hp => ?_, hI.2.2.1.2.2.2⟩, hI.2.2.2⟩
  · have h := hF f hf
    have hch : chF (uI r' 1 (60 * a + b) 1) f = chF r' f := chF_W (r := r') (r' := uI r' 1 (60 * a + b) 1) rfl rfl rfl rfl f
    rw [hch]
    refine ⟨h.1, h.2.1, h.2.2.1, fun p hp => ?_, h.2.2.2.2.1, h.2.2.2.2.2⟩
    show ubit (wJ (sJ w 3 2 (fA w x a) ((wJ w 3 2 (fA w x a)) ||| ((1 : Int64) <<< ((nI b).toInt64 &&& 63)))) 3 2 (fA w x f)) p = decide (¬ rI (uI r' 1 (60 * a + b) 1) 1 (60 * f + p) = 0)
    rw [(S_sJ w 3 2 (fA w x a) _).2.2.2.2.2.2.2, (R_uI r' 1 (60 * a + b) 1).2.2.2]
    have h2 := h.2.2.2.1 p hp
    by_cases hfa : f = a
    · subst hfa
      rw [ubit_b (by omega)] at h2 ⊢
      simp only [and_self, if_true, true_and]
      rw [b6_or, b6_one b (by omega) p (by omega), h2]
      by_cases hpb : p = b
      · subst hpb; simp
      · have : ¬ 60 * f + p = 60 * f + b := by omega
        simp [hpb, this]
    · have h1 : fA w x f ≠ fA w x a := fun e => hfa (fA_inj hI.1 hF hf ha e)
      have h3 : ¬ 60 * f + p = 60 * a + b := by omega
      simp only [h1, h3, and_false, if_false]
      exact h2
  · refine ⟨?_, (hI.2.2.1.1 i).2⟩
    show (if 1 = 1 ∧ i = 60 * a + b then (1 : Int32) else rI r' 1 i) = 0 ∨ (if 1 = 1 ∧ i = 60 * a + b then (1 : Int32) else rI r' 1 i) = 1
    by_cases hi : i = 60 * a + b
    · right; simp [hi]
    · simpa [hi] using (hI.2.2.1.1 i).1
  · show (if 1 = 1 ∧ 60 * f + p = 60 * a + b then (1 : Int32) else rI r' 1 (60 * f + p)) = 0
    rw [if_neg (fun z => by have : nF r' ≤ f := hf; omega)]
    exact hI.2.2.1.2.2.1 f p hf hp
theorem sm_tear (f p : Int32) : SmI bX10_tear mX10_tear bX11_tear mX11_tear [vI f, vI p] := by
  intro X w x m r hA
  have hC := hA.2.2.1
  have hc := hA.2.2.2.2.1
  have hf := hA.2.2.2.2.2.1
  have h4 := hA.2.2.2.1
  refine oX10_tear X _ x f p w ⟨hC.1.1, (c_folioAt w x r f hC hc).R ?_⟩
  rintro a w1 ⟨rfl, rfl⟩
  refine (c_parcelFault w1 x r hA.2.1.1 hc hf h4.1 f p).I ?_
  rintro v w2 ⟨rfl, rfl⟩
  refine ⟨hC.1.1, (c_settle w2 x _ hC.1.1).I ?_⟩
  rintro v w3 ⟨rfl, rfl⟩
  have hpos : wrgF r f p ≠ 0 → ¬ wrgF r f p ≤ 0 := fun h => by
    unfold wrgF at h ⊢
    split
    · decide
    · split
      · decide
      · split
        · decide
        · rename_i a b c; rw [if_neg a, if_neg b, if_neg c] at h; exact absurd rfl h
  have rdone : ∀ (w' : Wd), Sh w' m → wrgF r f p ≠ 0 → CM X w' m bX11_tear mX11_tear [vI f, vI p] r (pI fun u r1 => u = 0 ∧ Pe (uS r 41 (wrgF r f p)) r1) := by
    intro w' hS hne
    refine pX11_tear X _ m hS _ f p r ((s_wrong hS r hc hf f p).I ?_)
    rintro v r1 ⟨rfl, rfl⟩
    exact ⟨fun q => absurd q (hpos hne), fun _ => cm_no hS (Pe.rf _) _⟩
  refine ⟨fun hq => ?_, fun hq => ?_⟩
  · rw [bI_0] at hq
    have hne : wrgF r f p ≠ 0 := by simpa using hq
    exact ⟨_, AT_st (wrgF r f p) hA, rdone _ (AT_st (wrgF r f p) hA).1.1 hne⟩
  · rw [bI_n] at hq
    have hz : wrgF r f p = 0 := by simpa using hq
    rw [hz]
    obtain ⟨a, b, rfl, rfl, ha, hb, hs, hac, hbc, h0, ht⟩ := wrg0 hc hf hz
    rw [if_neg h0, hac]
    refine ⟨fun _ => ⟨(h4.1 a ha).1, oX3_tearOff X _ _ _ _ ⟨(h4.1 a ha).1, ?_⟩⟩, fun q => absurd q (K_nz hA.2.1.1 (h4.1 a ha).1)⟩
    rintro w4 rfl
    have hT := AT_tear (r' := uS r 41 0) (AT_st 0 hA) ha (show b < 60 by omega)
    refine ⟨_, hT, pX11_tear X _ m hT.1.1 _ _ _ r ((s_wrong hT.1.1 r hc hf _ _).I ?_)⟩
    rintro v r1 ⟨rfl, rfl⟩
    rw [hz, nI60, nI_clamp (show 60 * a + b < 2 ^ 31 by have := hc.1.2; omega)]
    refine ⟨fun _ => ⟨inN (by have := hc.1.2; omega) (by omega), ?_⟩, fun q => absurd (by decide) q⟩
    rintro r2 rfl r3 rfl
    exact ⟨rfl, Pe.rf _⟩
theorem Lk_R {nx : Nat → Nat} {a : Nat} {l : List Nat} (h : Lk nx a l) : Lk nx a l := h
/-- the latest day set anew: a new moment, the told day gone -/
theorem AT_newday {w : Wd} {x m q : Nat} {r r' : Rs} {d : Int32} (hA : AT w x m r r') (hq : wK w q = 5) (h1 : wI w 4 0 q = d) (h2 : wI w 4 1 q = d) (h3 : sS r' 39 ≤ d) (h4 : d ≤ 36500) : AT (sI (sR w 10 8 x q) 10 9 x d) x m r (uS (uS r' 39 d) 40 (-1)) := by
  obtain ⟨hM, hD, hC, ⟨hF, hE, hW, ⟨pl, hP⟩, hX⟩, hI⟩ := hA
  refine ⟨MO_sI 10 9 _ d (by decide) (MO_sR 10 8 _ q (by decide) hM), hD, ?_, ⟨CF_R (w := w) (r := r') rfl rfl rfl rfl rfl rfl rfl rfl rfl rfl rfl rfl rfl rfl rfl hF, hE, hW, ⟨pl, hP⟩, hX⟩, hI.1, hI.2.1, hI.2.2.1, hI.2.2.2.1, hI.2.2.2.2.1, ?_⟩
  · unfold CS at *
    simp only [S_sI, S_sR, R_uS, dnow] at *
    simp [hq, h1, h2]
    exact ⟨⟨hC.1.1, hC.1.2.1, hC.1.2.2.1, hC.1.2.2.2.1, hC.1.2.2.2.2.1, hC.1.2.2.2.2.2.1⟩, ⟨hC.2.1.1, hC.2.1.2.1, hC.2.1.2.2.1, hC.2.1.2.2.2.2.2.2.1, hC.2.1.2.2.2.2.2.2.2⟩, hC.2.2⟩
  · have h := hI.2.2.2.2.2
    unfold RId at *
    refine ⟨?_, h4, Or.inl rfl, h.2.2.2.1, fun k k1 k2 k3 => ⟨(h.2.2.2.2.1 k k1 k2 k3).1, ?_⟩, h.2.2.2.2.2⟩
    rotate_left
    · have h5 := (h.2.2.2.2.1 k k1 k2 k3).2
      rw [Int32.le_iff_toInt_le] at *
      show (rI r' 17 k).toInt ≤ d.toInt
      omega
    have h5 := h.1
    rw [Int32.le_iff_toInt_le] at *
    show (0 : Int32).toInt ≤ d.toInt
    omega
theorem sm_day (d : Int32) : SmI bX10_day mX10_day bX11_day mX11_day [vI d] := by
  intro X w x m r hA
  have hC := hA.2.2.1
  have hd := hA.2.2.2.2.2.2.2.2.2
  refine oX10_day X _ x d w ⟨hC.1.1, ?_⟩
  have bad : ∀ f : Int32, f ≠ 0 → (∀ w' : Wd, Sh w' m → CM X w' m bX11_day mX11_day [vI d] r (pI fun u r1 => u = 0 ∧ Pe (uS r 41 f) r1)) → Ct X bX10_settle mX10_settle [vR x, vI f] w (qI fun x5 w4 => ((¬ x5 = 0) → ∀ q8 : Nat, wK w4 q8 = 0 → q8 ≠ 0 → ∀ w9 : Wd, w9 = nO w4 4 q8 → Ct X bX4_init mX4_init [vR q8, vI d, vI d] w9 (qV fun w10 => wK w10 x = 11 ∧ ∀ w13 : Wd, w13 = sR w10 10 8 x q8 → ∀ w15 : Wd, w15 = sI w13 10 9 x d → ∃ r', AT w15 x m r r' ∧ CM X w15 m bX11_day mX11_day [vI d] r (pI fun u r1 => u = 1 ∧ Pe r' r1))) ∧ ((x5 = 0) → ∃ r', AT w4 x m r r' ∧ CM X w4 m bX11_day mX11_day [vI d] r (pI fun u r1 => u = 0 ∧ Pe r' r1))) := by
    intro f hf hr
    refine (c_settle w x f hC.1.1).I ?_
    rintro v w2 ⟨rfl, rfl⟩
    refine ⟨fun q => absurd (by simp [hf, bI]) q, fun _ => ⟨_, AT_st f hA, hr _ (AT_st f hA).1.1⟩⟩
  refine oX10_dayFault X _ x d w ⟨fun h => ⟨hC.1.1, hC.1.2.2.2.2.2.2, ?_⟩, fun h => ⟨hC.1.1, bad 5 (by decide) (fun w' hS => pX11_day X w' m hS _ d r ⟨fun q => absurd q h, fun _ => cm_no hS (Pe.rf _) 5⟩)⟩⟩
  rw [hC.2.1.2.2.2.1]
  refine ⟨fun h2 => ⟨hC.1.1, ?_⟩, fun h2 => ⟨hC.1.1, bad 8 (by decide) (fun w' hS => pX11_day X w' m hS _ d r ⟨fun _ => ⟨fun q => absurd q h2, fun _ => cm_no hS (Pe.rf _) 8⟩, fun q => absurd h q⟩)⟩⟩
  refine (c_settle w x 0 hC.1.1).I ?_
  rintro v w2 ⟨rfl, rfl⟩
  refine ⟨fun _ => ?_, fun q => absurd q (by decide)⟩
  rintro q hq hq0 w3 rfl
  have hA0 := AT_st 0 hA
  refine oX4_init X _ q d d _ ⟨by rw [nO_new]; decide, nO_new, ?_⟩
  rintro w4 rfl w5 rfl
  have hg : Ag (sI w 10 13 x 0) (sI (sI (nO (sI w 10 13 x 0) 4 q) 4 0 q d) 4 1 q d) := ((Ag.nO (w := sI w 10 13 x 0) 4 q hq).sI 4 0 q _ hq).sI 4 1 q _ hq
  have hz : wK (sI (sI (nO (sI w 10 13 x 0) 4 q) 4 0 q d) 4 1 q d) 0 = 0 := by
    show wK (nO (sI w 10 13 x 0) 4 q) 0 = 0
    rw [(S_nO _ 4 q).2.2.2.2.1, if_neg (fun e => hq0 e.symm)]
    exact hA0.2.1.1
  have hA5 := AG_all hg hz hA0
  refine ⟨hA5.2.2.1.1.1, ?_⟩
  rintro w6 rfl w7 rfl
  have hT := AT_newday (d := d) (r' := uS r 41 0) hA5 (q := q) nO_new (by simp [S_sI]) (by simp [S_sI]) h2 h
  refine ⟨_, hT, pX11_day X _ m hT.1.1 _ d r ⟨fun _ => ⟨fun _ => ?_, fun z => absurd h2 z⟩, fun z => absurd h z⟩⟩
  rintro r1 rfl r2 rfl r3 rfl
  refine ⟨rfl, ?_⟩
  rw [uS_comm (uS r 41 0) (by decide), uS_comm r (j := 41) (k := 40) (by decide), uS_comm (uS r 40 (-1)) (j := 41) (k := 39) (by decide), uS_comm r (j := 40) (k := 39) (by decide)]
  exact Pe.rf _
