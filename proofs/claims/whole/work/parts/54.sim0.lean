/-! ===== the class and the reference beside each other ===== -/
def ca (w : Wd) (x : Nat) : Nat := wR w 1 0 (wR w 10 2 x)
def MO (w : Wd) (m : Nat) (r : Rs) : Prop := Sh w m ∧ Wm w m r w
def DI (w : Wd) (x m : Nat) (r r' : Rs) : Prop := wK w 0 = 0 ∧ (∀ k, k < 65 → kA k ≠ 0 → wR w 11 k m ≠ ca w x) ∧ nE r' ≤ nE r + 2
/-- the reference at m holds r, the class at x shows r' -/
def AT (w : Wd) (x m : Nat) (r r' : Rs) : Prop := MO w m r ∧ DI w x m r r' ∧ CS w x r' ∧ C4 w x r' ∧ RI r'
theorem Sh_mv {w w' : Wd} {m : Nat} (h1 : wK w' = wK w) (h2 : wR w' = wR w) (h3 : wL w' = wL w) (h : Sh w m) : Sh w' m := by
  unfold Sh at *
  rw [h1, h2, h3]
  exact h
theorem MO_sc {w w' : Wd} {m : Nat} {r : Rs} (hw : Sw w w') (hI : wI w' 11 = wI w 11) (hJ : wJ w' 11 = wJ w 11) (hx : xI w' = xI w) (hy : xJ w' = xJ w) (h : MO w m r) : MO w' m r := by
  obtain ⟨hS, hW⟩ := h
  refine ⟨Sh_mv hw.1 hw.2.1 hw.2.2.1 hS, ⟨rfl, rfl, rfl, rfl⟩, fun _ _ _ _ => rfl, fun _ _ _ _ => rfl, fun _ _ _ => ⟨rfl, rfl⟩, fun k => ?_, ?_, fun k i h1 h2 => ?_, fun k i h1 h2 => ?_⟩
  · rw [hI]; exact hW.2.2.2.2.1 k
  · rw [hJ]; exact hW.2.2.2.2.2.1
  · rw [hx, hw.2.1]; exact hW.2.2.2.2.2.2.1 k i h1 h2
  · rw [hy, hw.2.1]; exact hW.2.2.2.2.2.2.2 k i h1 h2
theorem DI_sc {w w' : Wd} {x m : Nat} {r r' : Rs} (hw : Sw w w') (h : DI w x m r r') : DI w' x m r r' := by
  unfold DI ca at *
  rw [hw.1, hw.2.1]
  exact h
theorem CS_mv {w w' : Wd} {x : Nat} {r r' : Rs} (hw : Sw w w') (h1 : wI w' 10 = wI w 10) (h2 : wJ w' 10 = wJ w 10) (hx : ∀ i, xI w' (ca w x) i = xI w (ca w x) i) (hp : Pe r r') (h : CS w x r) : CS w' x r' := by
  unfold CS ca dnow at *
  simp only [hw.1, hw.2.1, hw.2.2.1, hw.2.2.2.2.1 1 (by omega), hw.2.2.2.2.1 4 (by omega), h1, h2, hx, hp.1 2 rfl, hp.1 30 rfl, hp.1 38 rfl, hp.1 39 rfl, hp.1 40 rfl, hp.1 41 rfl, hp.1 42 rfl, hp.1 43 rfl, hp.1 44 rfl, hp.1 52 rfl, hp.2.1, hp.2.2.1 51 rfl]
  exact h
theorem RI_mv {r r' : Rs} (hp : Pe r r') (h : RI r) : RI r' := by
  obtain ⟨a, b, c, d, e, f⟩ := h
  obtain ⟨a, b, c, d, e⟩ := RI4_mv hp.Sr ⟨a, b, c, d, e⟩
  refine ⟨a, b, c, d, e, ?_⟩
  unfold RId RIz at *
  have hfo : foR r' = foR r := by unfold foR; rw [hp.Sr.ixe 4 rfl]
  have hpa : paR r' = paR r := by unfold paR; rw [hp.Sr.ixe 6 rfl]
  rw [hp.1 39 rfl, hp.1 40 rfl, hp.1 42 rfl, hp.Sr.n.2.1, hp.Sr.n.2.2, hpa, hp.2.2.1 17 rfl, hfo, hp.Sr.ixe 31 rfl, hp.Sr.ixe 32 rfl, hp.2.2.1 3 rfl, hp.2.2.2 33 rfl]
  exact f
/-- behind the reference's call they are beside each other again -/
theorem AT_ref {w1 w2 : Wd} {x m : Nat} {r r' r1 : Rs} (h : AT w1 x m r r') (hW : Wm w1 m r1 w2) (hp : Pe r' r1) : AT w2 x m r1 r1 := by
  obtain ⟨⟨hS, hM⟩, hD, hC, h4, hI⟩ := h
  have hw := hW.Sw
  refine ⟨⟨Sh_mv hw.1 hw.2.1 hw.2.2.1 hS, ⟨rfl, rfl, rfl, rfl⟩, fun _ _ _ _ => rfl, fun _ _ _ _ => rfl, fun _ _ _ => ⟨rfl, rfl⟩, hW.2.2.2.2.1, hW.2.2.2.2.2.1, fun k i a b => ?_, fun k i a b => ?_⟩, ⟨(DI_sc hw hD).1, (DI_sc hw hD).2.1, Nat.le_add_right _ _⟩, CS_mv hw ?_ ?_ ?_ hp hC, C4_mv hw hp.Sr h4, RI_mv hp hI⟩
  · rw [hw.2.1]; exact hW.2.2.2.2.2.2.1 k i a b
  · rw [hw.2.1]; exact hW.2.2.2.2.2.2.2 k i a b
  · funext k a; exact hW.2.1 10 k a (by omega)
  · funext k a; exact hW.2.2.1 10 k a (by omega)
  · intro i; exact (hW.2.2.2.1 (ca w1 x) i (fun k hk h0 q => hD.2.1 k hk h0 q.symm)).1
/-- a number of RankBook's own, and one of the reference's, set alike -/
theorem AT_cls {w w' : Wd} {x m : Nat} {r r' r2 : Rs} (h : AT w x m r r') (hw : Sw w w') (hI : wI w' 11 = wI w 11) (hJ : wJ w' 11 = wJ w 11) (hx : xI w' = xI w) (hy : xJ w' = xJ w) (hr : Sr r' r2) (hC : CS w' x r2) (hd : RId r2) : AT w' x m r r2 := by
  obtain ⟨hM, hD, _, h4, hI4⟩ := h
  obtain ⟨a, b, c, d, e, f⟩ := hI4
  obtain ⟨a, b, c, d, e⟩ := RI4_mv hr ⟨a, b, c, d, e⟩
  exact ⟨MO_sc hw hI hJ hx hy hM, ⟨(DI_sc hw hD).1, (DI_sc hw hD).2.1, by rw [hr.n.2.1]; exact hD.2.2⟩, hC, C4_mv hw hr h4, a, b, c, d, e, hd⟩
def SmI (b : Bu) (M : Me) (b' : Bu) (M' : Me) (as : List Av) : Prop := ∀ (X : Cx) (w : Wd) (x m : Nat) (r : Rs), AT w x m r r → Ct X b M (vR x :: as) w (qI fun v w1 => ∃ r', AT w1 x m r r' ∧ CM X w1 m b' M' as r (pI fun u r1 => u = v ∧ Pe r' r1))
def SmJ (b : Bu) (M : Me) (b' : Bu) (M' : Me) (as : List Av) : Prop := ∀ (X : Cx) (w : Wd) (x m : Nat) (r : Rs), AT w x m r r → Ct X b M (vR x :: as) w (qJ fun v w1 => ∃ r', AT w1 x m r r' ∧ CM X w1 m b' M' as r (pJ fun u r1 => u = v ∧ Pe r' r1))
/-- out of it, what the law asks -/
theorem SmI.law {b : Bu} {M : Me} {b' : Bu} {M' : Me} {as : List Av} (h : SmI b M b' M' as) (X : Cx) (w : Wd) (x m : Nat) (r : Rs) (hA : AT w x m r r) : Ct X b M (vR x :: as) w (qI fun v w1 => wK w1 m = 12 ∧ Ct X b' M' (vR m :: as) w1 (qI fun u w2 => v = u ∧ ∃ r1, AT w2 x m r1 r1 ∧ nE r1 ≤ nE r + 2)) := by
  refine (h X w x m r hA).I ?_
  rintro v w1 ⟨r', hT, hc⟩
  refine ⟨hT.1.1.1, (hc w1 hT.1.2).mono ?_⟩
  rintro y w2 ⟨r1, hW, u, rfl, rfl, hp⟩
  exact ⟨u, rfl, rfl, r1, AT_ref hT hW hp, by rw [hp.Sr.n.2.1]; exact hT.2.1.2.2⟩
theorem SmJ.law {b : Bu} {M : Me} {b' : Bu} {M' : Me} {as : List Av} (h : SmJ b M b' M' as) (X : Cx) (w : Wd) (x m : Nat) (r : Rs) (hA : AT w x m r r) : Ct X b M (vR x :: as) w (qJ fun v w1 => wK w1 m = 12 ∧ Ct X b' M' (vR m :: as) w1 (qJ fun u w2 => v = u ∧ ∃ r1, AT w2 x m r1 r1 ∧ nE r1 ≤ nE r + 2)) := by
  refine (h X w x m r hA).J ?_
  rintro v w1 ⟨r', hT, hc⟩
  refine ⟨hT.1.1.1, (hc w1 hT.1.2).mono ?_⟩
  rintro y w2 ⟨r1, hW, u, rfl, rfl, hp⟩
  exact ⟨u, rfl, rfl, r1, AT_ref hT hW hp, by rw [hp.Sr.n.2.1]; exact hT.2.1.2.2⟩
/-! ===== promises 34, 35, 29, 5, 23 ===== -/
theorem sm_status : SmI bX10_status mX10_status bX11_status mX11_status [] := by
  intro X w x m r hA
  have hC := hA.2.2.1
  exact oX10_status X _ x w ⟨hC.1.1, r, hA, pX11_status X w m hA.1.1 _ r ⟨hC.2.1.2.2.2.2.2.2.2.2.2.symm, Pe.rf r⟩⟩
theorem sm_count (k : Int32) : SmI bX10_count mX10_count bX11_count mX11_count [vI k] := by
  intro X w x m r hA
  have hC := hA.2.2.1
  have hS := hA.1.1
  obtain ⟨c1, c2, c3⟩ := hC
  refine oX10_count X _ x k w ⟨fun h => ⟨c1.1, c1.2.2.2.2.2.2, r, hA, ?_⟩, fun h => ⟨c1.1, r, hA, ?_⟩, fun h => ⟨c1.1, r, hA, ?_⟩, fun h => ⟨c1.1, r, hA, ?_⟩, fun h => ⟨c1.1, r, hA, ?_⟩, fun h => ⟨c1.1, r, hA, ?_⟩, fun h => ⟨c1.1, c1.2.2.2.2.2.1, r, hA, ?_⟩, fun h0 h1 h2 h3 h4 h5 h6 => ⟨r, hA, ?_⟩⟩
  · subst h; rw [c2.2.2.2.1]; exact pX11_count X w m hS _ 0 r (by simp [Pe.rf])
  · subst h; rw [c2.1]; exact pX11_count X w m hS _ 1 r (by simp [Pe.rf])
  · subst h; rw [c2.2.1]; exact pX11_count X w m hS _ 2 r (by simp [Pe.rf])
  · subst h; rw [c2.2.2.1]; exact pX11_count X w m hS _ 3 r (by simp [Pe.rf])
  · subst h; rw [c2.2.2.2.2.2.1]; refine pX11_count X w m hS _ 4 r ⟨by simp, by simp, by simp, by simp, fun _ => ?_, by simp, by simp, by simp⟩
    refine (s_dateNow hS r).I ?_
    rintro u r1 ⟨rfl, rfl⟩
    exact ⟨rfl, Pe.rf _⟩
  · subst h; rw [c2.2.2.2.2.2.2.2.2.1]; exact pX11_count X w m hS _ 5 r (by simp [Pe.rf])
  · subst h; rw [c3.2.2.1]; exact pX11_count X w m hS _ 6 r (by simp [Pe.rf])
  · exact pX11_count X w m hS _ k r (by simp [h0, h1, h2, h3, h4, h5, h6, Pe.rf])
theorem sm_circle (i : Int32) : SmI bX10_circle mX10_circle bX11_circle mX11_circle [vI i] := by
  intro X w x m r hA
  have hS := hA.1.1
  obtain ⟨c1, c2, c3⟩ := hA.2.2.1
  obtain ⟨n, hn, hn2, hx⟩ := c3.2.2.2.2
  refine oX10_circle X _ x i w ⟨c1.1, c1.2.2.2.2.2.1, ?_⟩
  refine oX1_wholeAt X _ _ i w ⟨fun h => ⟨r, hA, pX11_circle X w m hS _ i r ⟨fun _ => ⟨rfl, Pe.rf r⟩, fun q => absurd h q⟩⟩, fun h => ⟨c1.2.2.2.2.2.1, ?_⟩⟩
  rw [c3.2.2.2.1]
  refine ⟨fun h2 => ⟨r, hA, pX11_circle X w m hS _ i r ⟨fun q => absurd q h, fun _ => ⟨fun q => ?_, fun _ => ⟨rfl, Pe.rf r⟩⟩⟩⟩, fun h2 => ⟨c3.1, ?_⟩⟩
  · rw [Int32.le_iff_toInt_le] at h2; rw [Int32.lt_iff_toInt_lt] at q; omega
  · obtain ⟨j, hj, rfl⟩ := nI_of h
    rw [hn, nI_leI (by omega) (by omega)] at h2
    have hjc : (nI j).toNatClampNeg = j := nI_clamp hj
    rw [c3.2.1, hjc]
    refine ⟨fun h3 => ?_, fun h3 => ⟨inN (by omega) (by omega), r, hA, ?_⟩⟩
    · have h3 : nI 101 ≤ nI j := h3
      rw [nI_leI (by omega) (by omega)] at h3
      omega
    · refine pX11_circle X w m hS _ _ r ⟨fun q => absurd q h, fun _ => ⟨fun q => ⟨inN (by omega) (by omega), ?_, Pe.rf r⟩, fun q => ?_⟩⟩
      · rw [hjc]; exact (hx j (by omega)).symm
      · rw [hn, nI_ltI (by omega) (by omega)] at q; omega
