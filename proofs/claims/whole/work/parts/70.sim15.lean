/-! ===== folio ===== -/
theorem chN_none {r : Rs} {f : Nat} (hE : RIE r) (h : nF r ≤ f) : ∀ n, n ≤ nE r → chN r f n = [] := by
  intro n
  induction n with
  | zero => intro _; rfl
  | succ n ih =>
    intro hn
    unfold chN
    have := (hE (n + 1) (by omega) hn).2.2.2.1.1
    rw [if_neg (fun z => by omega)]
    exact ih (by omega)
theorem ubit_0 (p : Nat) (hp : p < 60) : ubit 0 p = false := by
  rw [ubit_b (by omega)]
  exact b6_0 p
theorem AT_folio {w : Wd} {x m q s : Nat} {r r' : Rs} (hA : AT w x m r r') (hF40 : nF r' < 40) (s1 : 1 ≤ s) (s2 : s ≤ 60) (k1 : wK w q = 4) (k2 : wI w 3 0 q = nI (nF r')) (k3 : wI w 3 1 q = nI s) (k4 : wJ w 3 2 q = 0) (k5 : wR w 3 3 q = 0) (k6 : wR w 3 4 q = 0) :
    AT (sI (yR w (wR w 10 0 x) (nF r') q) 10 3 x (nI (nF r' + 1))) x m r (uS (uI r' 0 (nF r') (nI s)) 2 (nI (nF r' + 1))) := by
  obtain ⟨hM, hD, hC, ⟨hF, hE, hW, ⟨pl, hP⟩, hX⟩, hI⟩ := hA
  have hRE := hI.2.2.2.1
  have hn : nF (uS (uI r' 0 (nF r') (nI s)) 2 (nI (nF r' + 1))) = nF r' + 1 := nI_clamp (n := nF r' + 1) (by omega)
  have x1 : ∀ a i, wK w a ≠ 18 → xR (sI (yR w (wR w 10 0 x) (nF r') q) 10 3 x (nI (nF r' + 1))) a i = xR w a i := by
    intro a i ha
    show (if a = wR w 10 0 x ∧ i = nF r' then q else xR w a i) = xR w a i
    rw [if_neg (fun z => ha (by rw [z.1]; exact hC.1.2.1))]
  have e1 : eA (sI (yR w (wR w 10 0 x) (nF r') q) 10 3 x (nI (nF r' + 1))) x = eA w x := by
    funext e
    exact x1 (wR w 10 1 x) (e - 1) (by rw [hC.1.2.2.2.1]; decide)
  have e2 : wA (sI (yR w (wR w 10 0 x) (nF r') q) 10 3 x (nI (nF r' + 1))) x = wA w x := by
    funext e
    show wR w 2 1 (eA _ x e) = _
    rw [e1]; rfl
  have e3 : ∀ f, f ≠ nF r' → fA (sI (yR w (wR w 10 0 x) (nF r') q) 10 3 x (nI (nF r' + 1))) x f = fA w x f := by
    intro f hf
    show (if wR w 10 0 x = wR w 10 0 x ∧ f = nF r' then q else xR w (wR w 10 0 x) f) = _
    rw [if_neg (fun z => hf z.2)]; rfl
  have e4 : fA (sI (yR w (wR w 10 0 x) (nF r') q) 10 3 x (nI (nF r' + 1))) x (nF r') = q := by
    show (if wR w 10 0 x = wR w 10 0 x ∧ nF r' = nF r' then q else xR w (wR w 10 0 x) (nF r')) = _
    simp
  have r0 : ∀ f, f ≠ nF r' → rI (uS (uI r' 0 (nF r') (nI s)) 2 (nI (nF r' + 1))) 0 f = rI r' 0 f := by
    intro f hf
    show (if 0 = 0 ∧ f = nF r' then nI s else rI r' 0 f) = _
    rw [if_neg (fun z => hf z.2)]
  have r0' : rI (uS (uI r' 0 (nF r') (nI s)) 2 (nI (nF r' + 1))) 0 (nF r') = nI s := by
    show (if 0 = 0 ∧ nF r' = nF r' then nI s else rI r' 0 (nF r')) = _
    simp
  have i0 : ∀ f, f ≠ nF r' → ix (uS (uI r' 0 (nF r') (nI s)) 2 (nI (nF r' + 1))) 0 f = ix r' 0 f := fun f hf => by unfold ix; rw [r0 f hf]
  have i0' : ix (uS (uI r' 0 (nF r') (nI s)) 2 (nI (nF r' + 1))) 0 (nF r') = s := by unfold ix; rw [r0']; exact nI_clamp (by omega)
  have hch : ∀ f, chF (uS (uI r' 0 (nF r') (nI s)) 2 (nI (nF r' + 1))) f = chF r' f := chF_W (r := r') rfl rfl rfl rfl
  refine ⟨MO_sI 10 3 _ _ (by decide) (MO_mv (w := w) (fun a _ => ⟨rfl, rfl⟩) (fun _ => rfl) (fun _ => rfl) rfl (fun _ _ _ _ => ⟨rfl, rfl⟩) hM), hD, ?_, ⟨fun f hf => ?_, fun e a b => ?_, fun k a b c => ?_, ⟨pl, ?_⟩, ?_⟩, ?_, fun f hf => ?_, ⟨hI.2.2.1.1, hI.2.2.1.2.1, fun f p hf hp => hI.2.2.1.2.2.1 f p (by rw [hn] at hf; omega) hp, hI.2.2.1.2.2.2⟩, fun e a b => ?_, hI.2.2.2.2⟩
  · unfold CS at *
    simp only [S_sI, S_yR, R_uS, dnow] at *
    simp
    exact ⟨hC.1, ⟨hC.2.1.2.1, hC.2.1.2.2.1, hC.2.1.2.2.2⟩, hC.2.2⟩
  · rw [hch, e2]
    rw [hn] at hf
    by_cases hfF : f = nF r'
    · subst hfF
      rw [e4, r0']
      refine ⟨k1, k2, k3, fun p hp => ?_, ?_, ?_⟩
      · show ubit (wJ w 3 2 q) p = decide (¬ rI r' 1 (60 * nF r' + p) = 0)
        rw [k4, ubit_0 p hp, hI.2.2.1.2.2.1 (nF r') p (Nat.le_refl _) hp]
        rfl
      · unfold chF; rw [chN_none hRE (Nat.le_refl _) _ (Nat.le_refl _)]; exact k5
      · unfold chF; rw [chN_none hRE (Nat.le_refl _) _ (Nat.le_refl _)]; exact k6
    · rw [e3 f hfF, r0 f hfF]
      exact hF f (by omega)
  · have h := hE e a b
    have hfo := (hRE e a b).2.2.2.1.1
    have hne : foR r' e ≠ nF r' := by omega
    rw [e1, e2]
    refine ⟨h.1, h.2.1, ?_⟩
    rcases h.2.2 with ⟨z1, z2⟩ | ⟨z1, z2, z3, z4⟩
    · exact Or.inl ⟨z1, z2⟩
    · refine Or.inr ⟨z1, z2, z3.trans (i0 _ hne).symm, fun p hp => ?_⟩
      have z5 := z4 p hp
      rw [show foR (uS (uI r' 0 (nF r') (nI s)) 2 (nI (nF r' + 1))) e = foR r' e from rfl, i0 _ hne]
      refine ⟨fun y => ?_, z5.2⟩
      have z6 := z5.1 y
      rw [show wR (sI (yR w (wR w 10 0 x) (nF r') q) 10 3 x (nI (nF r' + 1))) 2 6 (eA w x e) = wR w 2 6 (eA w x e) from rfl, x1 _ _ (by rw [z2]; decide)]
      exact z6
  · have h := hW k a b c
    rw [e1, e2]
    rw [show foR (uS (uI r' 0 (nF r') (nI s)) 2 (nI (nF r' + 1))) k = foR r' k from rfl, e3 _ (show foR r' k ≠ nF r' by have := (hRE k a b).2.2.2.1.1; omega)]
    exact h
  · unfold CP at *
    rw [e1]
    exact hP
  · unfold CX at *
    rw [e1, e2]
    exact hX
  · refine ⟨⟨?_, ?_⟩, hI.1.2⟩
    · rw [hn]; rfl
    · rw [hn]; omega
  · rw [hn] at hf
    by_cases hfF : f = nF r'
    · subst hfF; rw [r0', i0']; exact ⟨rfl, s1, s2⟩
    · rw [r0 f hfF, i0 f hfF]; exact hI.2.1 f (by omega)
  · have h := hRE e a b
    exact ⟨h.1, h.2.1, h.2.2.1, ⟨by rw [hn]; exact Nat.lt_succ_of_lt h.2.2.2.1.1, h.2.2.2.1.2⟩, h.2.2.2.2⟩
theorem sm_folio (s : Int32) : SmI bX10_folio mX10_folio bX11_folio mX11_folio [vI s] := by
  intro X w x m r hA
  have hC := hA.2.2.1
  have hc := hA.2.2.2.2.1
  have hF := hc.1.2
  refine oX10_folio X _ x s w ⟨hC.1.1, ?_⟩
  refine oX10_folioFault X _ x s w ?_
  have bad : ∀ f : Int32, f ≠ 0 → (∀ w' : Wd, Sh w' m → CM X w' m bX11_folio mX11_folio [vI s] r (pI fun u r1 => u = -1 ∧ Pe (uS r 41 f) r1)) → Ct X bX10_settle mX10_settle [vR x, vI f] w (qI fun x5 w4 => ((¬ x5 = 0) → wK w4 x = 11 ∧ ∀ q9 : Nat, wK w4 q9 = 0 → q9 ≠ 0 → ∀ w10 : Wd, w10 = nO w4 3 q9 → Ct X bX3_init mX3_init [vR q9, vI (wI w4 10 3 x), vI s] w10 (qV fun w11 => wK w11 (wR w4 10 0 x) = 18 ∧ wK w11 q9 = 4 ∧ vp_in (wI w4 10 3 x) (wL w11 (wR w4 10 0 x)) ∧ ∀ w16 : Wd, w16 = yR w11 (wR w4 10 0 x) (wI w4 10 3 x).toNatClampNeg q9 → wK w16 x = 11 ∧ ∀ w18 : Wd, w18 = sI w16 10 3 x ((wI w16 10 3 x) + 1) → ∃ r', AT w18 x m r r' ∧ CM X w18 m bX11_folio mX11_folio [vI s] r (pI fun u r1 => u = wI w4 10 3 x ∧ Pe r' r1))) ∧ ((x5 = 0) → ∃ r', AT w4 x m r r' ∧ CM X w4 m bX11_folio mX11_folio [vI s] r (pI fun u r1 => u = -1 ∧ Pe r' r1))) := by
    intro f hf hr
    refine (c_settle w x f hC.1.1).I ?_
    rintro v w2 ⟨rfl, rfl⟩
    refine ⟨fun q => absurd (by simp [hf, bI]) q, fun _ => ⟨_, AT_st f hA, hr _ (AT_st f hA).1.1⟩⟩
  refine ⟨fun h => ⟨hC.1.1, bad 5 (by decide) (fun w' hS => pX11_folio X w' m hS _ s r ⟨fun _ => cm_ref hS (Pe.rf _) 5, fun q => absurd h q⟩)⟩, fun h => ⟨fun h2 => ⟨hC.1.1, ?_⟩, fun h2 => ⟨hC.1.1, bad 5 (by decide) (fun w' hS => pX11_folio X w' m hS _ s r ⟨fun q => absurd q h, fun _ => ⟨fun q => absurd q h2, fun _ => cm_ref hS (Pe.rf _) 5⟩⟩)⟩⟩⟩
  have h40 : nI 40 = 40 := by decide
  rw [hC.2.1.1, hc.1.1, ← h40, nI_ltI (by omega) (by omega)]
  have h40' : sS r 2 = 40 ↔ nF r = 40 := by rw [hc.1.1, ← h40, nI_eq (by omega) (by omega)]
  refine ⟨fun h3 => ⟨hC.1.1, ?_⟩, fun h3 => ⟨hC.1.1, bad 10 (by decide) (fun w' hS => pX11_folio X w' m hS _ s r ⟨fun q => absurd q h, fun _ => ⟨fun _ => ⟨fun q => absurd (h40'.mpr (by omega)) q, fun _ => cm_ref hS (Pe.rf _) 10⟩, fun q => absurd h2 q⟩⟩)⟩⟩
  refine (c_settle w x 0 hC.1.1).I ?_
  rintro v w2 ⟨rfl, rfl⟩
  refine ⟨fun _ => ⟨hC.1.1, ?_⟩, fun q => absurd q (by decide)⟩
  rintro q hq hq0 w3 rfl
  have hA0 := AT_st 0 hA
  have hx3 : wI (sI w 10 13 x 0) 10 3 x = nI (nF r) := hC.2.1.1.trans hc.1.1
  rw [hx3]
  refine oX3_init X _ q _ s _ ⟨by rw [nO_new]; decide, nO_new, ?_⟩
  rintro w4 rfl w5 rfl
  obtain ⟨sn, hsn, rfl⟩ := nI_of (x := s) (fun z => h (by rw [Int32.lt_iff_toInt_lt] at *; have : (0 : Int32).toInt = 0 := rfl; have : (1 : Int32).toInt = 1 := rfl; omega))
  have s1 : 1 ≤ sn := by
    have : nI 1 = 1 := by decide
    rw [← this, nI_ltI (by omega) (by omega)] at h; omega
  have s2 : sn ≤ 60 := by
    have : nI 60 = 60 := by decide
    rw [← this, nI_leI (by omega) (by omega)] at h2; exact h2
  have hg : Ag (sI w 10 13 x 0) (sI (sI (nO (sI w 10 13 x 0) 3 q) 3 0 q (nI (nF r))) 3 1 q (nI sn)) := ((Ag.nO (w := sI w 10 13 x 0) 3 q hq).sI 3 0 q _ hq).sI 3 1 q _ hq
  have hz : wK (sI (sI (nO (sI w 10 13 x 0) 3 q) 3 0 q (nI (nF r))) 3 1 q (nI sn)) 0 = 0 := by
    show wK (nO (sI w 10 13 x 0) 3 q) 0 = 0
    rw [(S_nO _ 3 q).2.2.2.2.1, if_neg (fun e => hq0 e.symm)]
    exact hA0.2.1.1
  have hA5 := AG_all hg hz hA0
  have hfa : wR (sI w 10 13 x 0) 10 0 x = wR (sI (sI (nO (sI w 10 13 x 0) 3 q) 3 0 q (nI (nF r))) 3 1 q (nI sn)) 10 0 x := ((hg x (kz hC.1.1)).2.2.2.2.1 10 0).symm
  rw [hfa, nI_clamp (show nF r < 2 ^ 31 by omega)]
  refine ⟨hA5.2.2.1.1.2.1, nO_new, by rw [hA5.2.2.1.1.2.2.1]; exact inN (by omega) (by omega), ?_⟩
  rintro w6 rfl
  refine ⟨hA5.2.2.1.1.1, ?_⟩
  rintro w7 rfl
  have hv3 : wI (yR (sI (sI (nO (sI w 10 13 x 0) 3 q) 3 0 q (nI (nF r))) 3 1 q (nI sn)) (wR (sI (sI (nO (sI w 10 13 x 0) 3 q) 3 0 q (nI (nF r))) 3 1 q (nI sn)) 10 0 x) (nF r) q) 10 3 x + 1 = nI (nF r + 1) := by
    rw [show wI (yR (sI (sI (nO (sI w 10 13 x 0) 3 q) 3 0 q (nI (nF r))) 3 1 q (nI sn)) (wR (sI (sI (nO (sI w 10 13 x 0) 3 q) 3 0 q (nI (nF r))) 3 1 q (nI sn)) 10 0 x) (nF r) q) 10 3 x = nI (nF r) from hA5.2.2.1.2.1.1.trans hc.1.1]
    exact nI_1 _
  rw [hv3]
  have hT := AT_folio (r' := uS r 41 0) hA5 (show nF r < 40 from h3) s1 s2 (q := q) nO_new (by simp [S_sI]; rfl) (by simp [S_sI]) (by show wJ (nO (sI w 10 13 x 0) 3 q) 3 2 q = 0; rw [(S_nO _ 3 q).2.2.2.2.2.2.1]; simp) (by show wR (nO (sI w 10 13 x 0) 3 q) 3 3 q = 0; rw [(S_nO _ 3 q).2.2.2.2.2.2.2]; simp) (by show wR (nO (sI w 10 13 x 0) 3 q) 3 4 q = 0; rw [(S_nO _ 3 q).2.2.2.2.2.2.2]; simp)
  refine ⟨_, hT, pX11_folio X _ m hT.1.1 _ _ r ⟨fun z => absurd z h, fun _ => ⟨fun _ => ⟨fun _ => ?_, fun z => absurd (h40'.mp z) (by omega)⟩, fun z => absurd h2 z⟩⟩⟩
  rw [hc.1.1, nI_clamp (show nF r < 2 ^ 31 by omega)]
  refine ⟨inN h3 (by omega), ?_⟩
  rintro r1 rfl r2 rfl r3 rfl
  have hs2 : sS (uI r 0 (nF r) (nI sn)) 2 + 1 = nI (nF r + 1) := by rw [show sS (uI r 0 (nF r) (nI sn)) 2 = nI (nF r) from hc.1.1]; exact nI_1 _
  rw [hs2]
  refine ⟨nI_pred _, ?_⟩
  rw [uS_comm _ (j := 2) (k := 41) (by decide)]
  exact Pe.rf _
