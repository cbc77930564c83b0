/-! ===== release ===== -/
theorem CW_R {w w' : Wd} {x : Nat} {r r' : Rs} (h1 : wK w' = wK w) (h2 : wI w' = wI w) (h3 : wJ w' = wJ w) (h4 : wR w' = wR w) (f1 : fA w' x = fA w x) (f2 : eA w' x = eA w x) (f3 : wA w' x = wA w x) (hr : ∀ k, k ≠ 28 → k ≠ 29 → rI r' k = rI r k) (hj : rJ r' = rJ r) (hn : nE r' = nE r) (h : CW w x r) : CW w' x r' := by
  have i : ∀ k, k ≠ 28 → k ≠ 29 → ix r' k = ix r k := fun k a b => by funext j; unfold ix; rw [hr k a b]
  unfold CW Ac paR fiR foR at *
  simp only [h1, h2, h3, h4, f1, f2, f3, hj, hn, i 4 (by decide) (by decide), i 6 (by decide) (by decide), i 9 (by decide) (by decide), i 24 (by decide) (by decide), i 25 (by decide) (by decide), hr 3 (by decide) (by decide), hr 11 (by decide) (by decide), hr 13 (by decide) (by decide), hr 14 (by decide) (by decide), hr 15 (by decide) (by decide), hr 16 (by decide) (by decide), hr 17 (by decide) (by decide), hr 18 (by decide) (by decide), hr 19 (by decide) (by decide), hr 20 (by decide) (by decide), hr 21 (by decide) (by decide), hr 22 (by decide) (by decide), hr 23 (by decide) (by decide), hr 26 (by decide) (by decide), hr 27 (by decide) (by decide)]
  exact h
theorem CP_R {w w' : Wd} {x : Nat} {r r' : Rs} {pl : List Nat} (h1 : wK w' = wK w) (h2 : wI w' = wI w) (h3 : wJ w' = wJ w) (h4 : wR w' = wR w) (f2 : eA w' x = eA w x) (hr : ∀ k, k ≠ 28 → k ≠ 29 → rI r' k = rI r k) (hj : rJ r' = rJ r) (hn : nP r' = nP r) (h : CP w x r pl) : CP w' x r' pl := by
  have i : ∀ k, k ≠ 28 → k ≠ 29 → ix r' k = ix r k := fun k a b => by funext j; unfold ix; rw [hr k a b]
  unfold CP Ac at *
  simp only [h1, h2, h3, h4, f2, hj, hn, i 31 (by decide) (by decide), i 32 (by decide) (by decide), hr 34 (by decide) (by decide), hr 35 (by decide) (by decide), hr 36 (by decide) (by decide), hr 37 (by decide) (by decide)]
  exact h
theorem sz_of {w : Wd} {x m : Nat} {r r' : Rs} (hA : AT w x m r r') {n : Nat} (h1 : 1 ≤ n) (h2 : n ≤ nE r') : ix r' 0 (foR r' n) ≤ 60 ∧ wR w 2 1 (eA w x n) = wA w x (whR r' n) ∧ wK w (wA w x (whR r' n)) = 10 ∧ wR w 9 0 (wA w x (whR r' n)) = fA w x (foR r' n) ∧ wK w (fA w x (foR r' n)) = 4 ∧ wI w 3 1 (fA w x (foR r' n)) = nI (ix r' 0 (foR r' n)) := by
  obtain ⟨_, _, _, h4, hI⟩ := hA
  have hIn := hI.2.2.2.1 n h1 h2
  obtain ⟨k1, k2, k3⟩ := whole_of_e hI.2.2.2.1 h4.2.2.1 h1 h2
  have hk := h4.2.2.1 _ k1 k2 k3
  have hs := hI.2.1 _ hIn.2.2.2.1.1
  have hF := h4.1 _ hIn.2.2.2.1.1
  exact ⟨hs.2.2, (h4.2.1 n h1 h2).1.2.2.1, hk.1.1, by rw [hk.1.2.1, ← hIn.2.2.2.1.2.1], hF.1, by rw [hF.2.2.1, hs.1]⟩
/-- a row of its own for the releases -/
theorem AT_relNew {w : Wd} {x m n q : Nat} {r r' : Rs} (hA : AT w x m r r') (h1 : 1 ≤ n) (h2 : n ≤ nE r') (h0 : wR w 2 6 (eA w x n) = 0) (hq : wK w q = 16) (hl : wL w q = ix r' 0 (foR r' n)) (hx : ∀ p, xR w q p = 0) (ho : ∀ e, 1 ≤ e → e ≤ nE r' → wR w 2 6 (eA w x e) ≠ q) (hq0 : q ≠ 0) : AT (sR w 2 6 (eA w x n) q) x m r r' := by
  obtain ⟨hM, hD, hC, ⟨hF, hE, hW, ⟨pl, hP⟩, hX⟩, hI⟩ := hA
  have inj : ∀ e, 1 ≤ e → e ≤ nE r' → e ≠ n → eA w x e ≠ eA w x n := fun e a b c d => c (eA_inj hI.1 hE a b h1 h2 d)
  refine ⟨MO_sR 2 6 _ q (by decide) hM, hD, hC, ⟨CF_R (w := w) (r := r') rfl rfl rfl rfl rfl rfl rfl rfl rfl rfl rfl rfl rfl rfl rfl hF, fun e a b => ?_, hW, ⟨pl, hP⟩, hX.1, fun e e' a b a' b' hne heq => ?_⟩, hI⟩
  · have h := hE e a b
    refine ⟨h.1, h.2.1, ?_⟩
    by_cases he : e = n
    · subst he
      have hv : wR (sR w 2 6 (eA w x e) q) 2 6 (eA w x e) = q := by rw [(S_sR w 2 6 _ q).2.2.2.2.2.2.2, if_pos ⟨rfl, rfl, rfl⟩]
      have hv' : wR (sR w 2 6 (eA w x e) q) 2 6 (eA (sR w 2 6 (eA w x e) q) x e) = q := hv
      unfold CL
      rw [hv']
      have hno : ∀ p, p < 60 → rI r' 29 (60 * e + p) = -1 := by
        rcases h.2.2 with h5 | h5
        · exact h5.2
        · exact absurd h0 h5.1
      exact Or.inr ⟨hq0, hq, hl, fun p hp => ⟨fun _ => ⟨fun _ => hx p, fun z => absurd (hno p hp) z⟩, fun _ => hno p hp⟩⟩
    · have hv : wR (sR w 2 6 (eA w x n) q) 2 6 (eA w x e) = wR w 2 6 (eA w x e) := by rw [(S_sR w 2 6 _ q).2.2.2.2.2.2.2, if_neg (fun z => inj e a b he z.2.2)]
      have hv' : wR (sR w 2 6 (eA w x n) q) 2 6 (eA (sR w 2 6 (eA w x n) q) x e) = wR w 2 6 (eA w x e) := hv
      unfold CL
      rw [hv']
      exact h.2.2
  · have hv : ∀ e, wR (sR w 2 6 (eA w x n) q) 2 6 (eA (sR w 2 6 (eA w x n) q) x e) = if eA w x e = eA w x n then q else wR w 2 6 (eA w x e) := fun e => by
      show wR (sR w 2 6 (eA w x n) q) 2 6 (eA w x e) = _
      rw [(S_sR w 2 6 _ q).2.2.2.2.2.2.2]
      simp
    rw [hv] at hne
    rw [hv, hv] at heq
    by_cases he : e = n
    · subst he
      rw [if_pos rfl] at heq
      by_cases he' : e' = e
      · exact he'.symm
      · rw [if_neg (inj e' a' b' he')] at heq
        exact absurd heq.symm (ho e' a' b')
    · rw [if_neg (inj e a b he)] at heq hne
      by_cases he' : e' = n
      · subst he'
        rw [if_pos rfl] at heq
        exact absurd heq (ho e a b)
      · rw [if_neg (inj e' a' b' he')] at heq
        exact hX.2 e e' a b a' b' hne heq
/-- an act into the row -/
theorem AT_relPut {w : Wd} {x m n b q : Nat} {r r' : Rs} {d k : Int32} (hA : AT w x m r r') (hq : Ac w q d k) (h1 : 1 ≤ n) (h2 : n ≤ nE r') (hb : b < ix r' 0 (foR r' n)) (h0 : wR w 2 6 (eA w x n) ≠ 0) : AT (yR w (wR w 2 6 (eA w x n)) b q) x m r (uI (uI r' 28 (60 * n + b) d) 29 (60 * n + b) k) := by
  have hsz := (sz_of hA h1 h2).1
  obtain ⟨hM, hD, hC, ⟨hF, hE, hW, ⟨pl, hP⟩, hX⟩, hI⟩ := hA
  have hN := hI.1.2.1.2
  have hn := hE n h1 h2
  have hk16 : wK w (wR w 2 6 (eA w x n)) = 16 := by
    rcases hn.2.2 with h | h
    · exact absurd h.1 h0
    · exact h.2.1
  have off : ∀ a, wK w a ≠ 16 → ∀ i, xR (yR w (wR w 2 6 (eA w x n)) b q) a i = xR w a i := fun a ha i => by
    rw [(S_yR w _ b q).2.2.2.2.2.2.2, if_neg (fun z => ha (by rw [z.1]; exact hk16))]
  have f1 : fA (yR w (wR w 2 6 (eA w x n)) b q) x = fA w x := by funext f; exact off (wR w 10 0 x) (by rw [hC.1.2.1]; decide) _
  have f2 : eA (yR w (wR w 2 6 (eA w x n)) b q) x = eA w x := by funext f; exact off (wR w 10 1 x) (by rw [hC.1.2.2.2.1]; decide) _
  have f3 : wA (yR w (wR w 2 6 (eA w x n)) b q) x = wA w x := by funext f; unfold wA; rw [f2]; rfl
  have hr : ∀ j, j ≠ 28 → j ≠ 29 → rI (uI (uI r' 28 (60 * n + b) d) 29 (60 * n + b) k) j = rI r' j := fun j a c => by
    funext i
    rw [(R_uI _ 29 _ k).2.2.2, if_neg (fun z => c z.1), (R_uI r' 28 _ d).2.2.2, if_neg (fun z => a z.1)]
  refine ⟨MO_mv (w := w) (fun _ _ => ⟨rfl, rfl⟩) (fun _ => rfl) (fun _ => rfl) rfl (fun _ _ _ _ => ⟨rfl, rfl⟩) hM, hD, hC, ⟨CF_R (w := w) (r := r') rfl f1 f3 rfl rfl rfl rfl rfl (hr 0 (by decide) (by decide)) (hr 1 (by decide) (by decide)) (hr 4 (by decide) (by decide)) (hr 6 (by decide) (by decide)) (hr 13 (by decide) (by decide)) rfl rfl hF, fun e a c => ?_, CW_R (w := w) (r := r') rfl rfl rfl rfl f1 f2 f3 hr rfl rfl hW, ⟨pl, CP_R (w := w) (r := r') rfl rfl rfl rfl f2 hr rfl rfl hP⟩, ?_⟩, hI⟩
  · have h := hE e a c
    rw [f2, f3]
    refine ⟨h.1, h.2.1, ?_⟩
    have hIe := hI.2.2.2.1 e a c
    have hsz2 := (hI.2.1 _ hIe.2.2.2.1.1).2.2
    rcases h.2.2 with h5 | ⟨h5, h6, h7, h8⟩
    · have hen : e ≠ n := fun z => h0 (by rw [← z]; exact h5.1)
      refine Or.inl ⟨h5.1, fun p hp => ?_⟩
      rw [(R_uI _ 29 _ k).2.2.2, if_neg (by omega)]
      exact h5.2 p hp
    · refine Or.inr ⟨h5, h6, h7, fun p hp => ?_⟩
      have e28 : rI (uI (uI r' 28 (60 * n + b) d) 29 (60 * n + b) k) 28 (60 * e + p) = if 60 * e + p = 60 * n + b then d else rI r' 28 (60 * e + p) := by
        rw [(R_uI _ 29 _ k).2.2.2, if_neg (by omega), (R_uI r' 28 _ d).2.2.2]; simp
      have e29 : rI (uI (uI r' 28 (60 * n + b) d) 29 (60 * n + b) k) 29 (60 * e + p) = if 60 * e + p = 60 * n + b then k else rI r' 29 (60 * e + p) := by
        rw [(R_uI _ 29 _ k).2.2.2, (R_uI r' 28 _ d).2.2.2]; simp
      have ex : xR (yR w (wR w 2 6 (eA w x n)) b q) (wR w 2 6 (eA w x e)) p = if wR w 2 6 (eA w x e) = wR w 2 6 (eA w x n) ∧ p = b then q else xR w (wR w 2 6 (eA w x e)) p := (S_yR w _ b q).2.2.2.2.2.2.2 _ _
      have hiff : (wR w 2 6 (eA w x e) = wR w 2 6 (eA w x n) ∧ p = b) ↔ 60 * e + p = 60 * n + b := by
        constructor
        · rintro ⟨z1, z2⟩
          have := hX.2 e n a c h1 h2 h5 z1
          subst this; subst z2; rfl
        · intro z
          have : e = n := by omega
          subst this
          exact ⟨rfl, by omega⟩
      refine ⟨fun hs => ?_, fun hs => ?_⟩
      · show Ac w (xR (yR w (wR w 2 6 (eA w x n)) b q) (wR w 2 6 (eA w x e)) p) _ _
        rw [ex, e28, e29]
        by_cases hz : 60 * e + p = 60 * n + b
        · rw [if_pos (hiff.mpr hz), if_pos hz, if_pos hz]; exact hq
        · rw [if_neg (fun z => hz (hiff.mp z)), if_neg hz, if_neg hz]; exact (h8 p hp).1 hs
      · rw [e29]
        by_cases hz : 60 * e + p = 60 * n + b
        · exfalso
          have : e = n := by omega
          subst this
          have hpb : p = b := by omega
          subst hpb
          exact hs hb
        · rw [if_neg hz]; exact (h8 p hp).2 hs
  · unfold CX at *
    rw [f2, f3]
    exact hX
theorem c_recRel {X : Cx} (w : Wd) (x m n b q : Nat) (r r' : Rs) (d k : Int32) (hA : AT w x m r r') (hq1 : wK w q = 1) (hq : Ac w q d k) (h1 : 1 ≤ n) (h2 : n ≤ nE r') (hb : b < ix r' 0 (foR r' n)) : Ct X bX2_recordRelease mX2_recordRelease [vR (eA w x n), vI (nI b), vR q] w (qV fun w' => AT w' x m r (uI (uI r' 28 (60 * n + b) d) 29 (60 * n + b) k)) := by
  have hz := hA.2.1.1
  have hCe := hA.2.2.2.1.2.1 n h1 h2
  obtain ⟨s1, s2, s3, s4, s5, s6⟩ := sz_of hA h1 h2
  have hb0 : ¬ nI b < 0 := nI_pos (by omega)
  have hbc : (nI b).toNatClampNeg = b := nI_clamp (by omega)
  have fin : ∀ w', AT w' x m r r' → wK w' q = 1 → Ac w' q d k → eA w' x n = eA w x n → wR w' 2 6 (eA w x n) ≠ 0 → jX2_recordRelease_24 X (fun w' => AT w' x m r (uI (uI r' 28 (60 * n + b) d) 29 (60 * n + b) k)) (eA w x n) (nI b) q w' := by
    intro w' hA' hq1' hq' he hne
    have hCe' := hA'.2.2.2.1.2.1 n h1 h2
    rw [he] at hCe'
    rcases hCe'.2.2 with h5 | ⟨h5, h6, h7, h8⟩
    · exact absurd h5.1 hne
    · refine tX2_recordRelease_24 X _ _ _ _ w' ⟨fun z => absurd z hb0, fun _ => ⟨hCe'.1.1, h6, fun z => ?_, fun z => ⟨hq1', ?_, ?_⟩⟩⟩
      · exfalso
        rw [h7] at z
        have z : nI (ix r' 0 (foR r' n)) ≤ nI b := z
        rw [nI_leI (by omega) (by omega)] at z
        omega
      · rw [h7]; exact inN hb (by omega)
      · rw [hbc]
        rintro w7 rfl
        have := AT_relPut hA' hq' h1 h2 hb (by rw [he]; exact hne)
        rw [he] at this
        exact this
  refine oX2_recordRelease X _ _ _ _ w ⟨hCe.1.1, fun h => fin w hA hq1 hq rfl h, fun h => ?_⟩
  rw [s2, s4, s6]
  refine ⟨s3, s5, ⟨nI_pos (by omega), by rw [nI_clamp (by omega)]; exact s1⟩, ?_⟩
  rw [nI_clamp (show ix r' 0 (foR r' n) < 2 ^ 31 by omega)]
  rintro q2 hq2 hq20 w6 rfl w8 rfl
  have hg := Ag.nA (w := w) 16 q2 (ix r' 0 (foR r' n)) hq2
  have hz6 : wK (nA w 16 q2 (ix r' 0 (foR r' n))) 0 = 0 := by
    rw [(S_nA w 16 q2 _).2.2.2.1, if_neg (fun e => hq20 e.symm)]; exact hz
  have hA6 := AG_all hg hz6 hA
  have he6 := (AG_e hg hA).1
  have hg1 := hg (eA w x n) (by rw [hCe.1.1]; decide)
  have hgq := hg q (by rw [hq1]; decide)
  have hA8 := AT_relNew (q := q2) hA6 h1 h2 (by rw [he6]; exact h) nA_new (by rw [(S_nA w 16 q2 _).2.2.2.2.1, if_pos rfl]) (fun p => by rw [(S_nA w 16 q2 _).2.2.2.2.2.2.2, if_pos rfl]) (fun e a c z => by
      rw [he6] at z
      have z : wR w 2 6 (eA w x e) = q2 := z
      rcases (hA.2.2.2.1.2.1 e a c).2.2 with h5 | h5
      · exact hq20 (by rw [← z]; exact h5.1)
      · rw [← z, h5.2.1] at hq2; cases hq2) hq20
  rw [he6] at hA8
  have hq8 : wK (sR (nA w 16 q2 (ix r' 0 (foR r' n))) 2 6 (eA w x n) q2) q = 1 := hgq.1.trans hq1
  refine fin _ hA8 hq8 (Ac_ag hg hq) (by show eA (nA w 16 q2 _) x n = _; rw [he6]) ?_
  rw [(S_sR _ 2 6 (eA w x n) q2).2.2.2.2.2.2.2, if_pos ⟨rfl, rfl, rfl⟩]
  exact hq20
