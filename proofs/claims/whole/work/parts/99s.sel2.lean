/-! ===== sell: the terms, and a release told ===== -/
section R4
variable {X : Cx} {x m : Nat} {r0 : Rs}
theorem AT_run {w : Wd} {r' : Rs} (hA : AT w x m r0 r') {k : Nat} (k1 : 1 ≤ k) (k2 : k ≤ nE r') (k3 : paR r' k = 0) : AT (Tm w (wR w 9 3 (wA w x k)) (sS r' 39)) x m r0 (uI (uI r' 17 k (sS r' 39)) 18 k (if rI r' 3 k = 4 then 1 else rI r' 18 k)) := by
  obtain ⟨hM, hD, hC, ⟨hF, hE, hW, ⟨pl, hP⟩, hX⟩, hI⟩ := hA
  refine ⟨MO_sI 8 7 _ _ (by decide) (MO_sI 8 3 _ _ (by decide) hM), hD, hC, ⟨CF_R (w := w) (r := r') rfl rfl rfl rfl rfl rfl rfl rfl rfl rfl rfl rfl rfl rfl rfl hF, hE, fun j a b c => ?_, ⟨pl, hP⟩, hX⟩, hI.1, hI.2.1, ⟨fun i => ?_, fun e he => ?_, hI.2.2.1.2.2.1, hI.2.2.1.2.2.2.1, hI.2.2.1.2.2.2.2.1, fun e a b => ?_⟩, hI.2.2.2.1, hI.2.2.2.2.1, hI.2.2.2.2.2.1, hI.2.2.2.2.2.2.1, hI.2.2.2.2.2.2.2.1, hI.2.2.2.2.2.2.2.2.1, fun e a b c => ?_, hI.2.2.2.2.2.2.2.2.2.2⟩
  · have h := hW j a b c
    have ht := h.2.2.1
    refine ⟨h.1, h.2.1, ⟨ht.1, ht.2.1, ht.2.2.1, ht.2.2.2.1, ?_, ht.2.2.2.2.2.1, ht.2.2.2.2.2.2.1, ht.2.2.2.2.2.2.2.1, fun h4 => ?_⟩, h.2.2.2.1, h.2.2.2.2⟩
    · show (if 8 = 8 ∧ 3 = 7 ∧ wR w 9 3 (wA w x j) = wR w 9 3 (wA w x k) then (1 : Int32) else if 8 = 8 ∧ 3 = 3 ∧ wR w 9 3 (wA w x j) = wR w 9 3 (wA w x k) then sS r' 39 else wI w 8 3 (wR w 9 3 (wA w x j))) = (if 17 = 18 ∧ j = k then (if rI r' 3 k = 4 then 1 else rI r' 18 k) else if 17 = 17 ∧ j = k then sS r' 39 else rI r' 17 j)
      by_cases hj : j = k
      · simp [hj]
      · have this : wR w 9 3 (wA w x j) ≠ wR w 9 3 (wA w x k) := fun e => hj (hX.1 j k a b c k1 k2 k3 e)
        simp only [hj, this, and_false, if_false]
        exact ht.2.2.2.2.1
    · have h4' : rI r' 3 j = 4 := h4
      show (if 8 = 8 ∧ 7 = 7 ∧ wR w 9 3 (wA w x j) = wR w 9 3 (wA w x k) then (1 : Int32) else if 8 = 8 ∧ 7 = 3 ∧ wR w 9 3 (wA w x j) = wR w 9 3 (wA w x k) then sS r' 39 else wI w 8 7 (wR w 9 3 (wA w x j))) = (if 18 = 18 ∧ j = k then (if rI r' 3 k = 4 then 1 else rI r' 18 k) else if 18 = 17 ∧ j = k then sS r' 39 else rI r' 18 j)
      by_cases hj : j = k
      · rw [if_pos ⟨rfl, rfl, by rw [hj]⟩, if_pos ⟨rfl, hj⟩, if_pos (by rw [← hj]; exact h4')]
      · have : wR w 9 3 (wA w x j) ≠ wR w 9 3 (wA w x k) := fun e => hj (hX.1 j k a b c k1 k2 k3 e)
        rw [if_neg (fun q => this q.2.2), if_neg (fun q => by omega), if_neg (fun q => hj q.2), if_neg (fun q => by omega)]
        exact ht.2.2.2.2.2.2.2.2 h4'
  · refine ⟨(hI.2.2.1.1 i).1, ?_, (hI.2.2.1.1 i).2.2⟩
    show (if 18 = 18 ∧ i = k then (if rI r' 3 k = 4 then (1 : Int32) else rI r' 18 k) else if 18 = 17 ∧ i = k then sS r' 39 else rI r' 18 i) = 0 ∨ (if 18 = 18 ∧ i = k then (if rI r' 3 k = 4 then (1 : Int32) else rI r' 18 k) else if 18 = 17 ∧ i = k then sS r' 39 else rI r' 18 i) = 1
    by_cases hi : i = k
    · rw [if_pos ⟨rfl, hi⟩]
      split
      · exact Or.inr rfl
      · exact (hI.2.2.1.1 k).2.1
    · rw [if_neg (fun q => hi q.2), if_neg (fun q => by omega)]; exact (hI.2.2.1.1 i).2.1
  · have he' : nE r' < e := he
    have h := hI.2.2.1.2.1 e he'
    refine ⟨?_, h.2⟩
    show (if 18 = 18 ∧ e = k then _ else if 18 = 17 ∧ e = k then sS r' 39 else rI r' 18 e) = 0
    rw [if_neg (fun q => by omega), if_neg (fun q => by omega)]; exact h.1
  · have h := hI.2.2.1.2.2.2.2.2 e a b
    refine ⟨h.1, ⟨h.2.1.1, fun h4 => ⟨(h.2.1.2.1 h4).1, (h.2.1.2.1 h4).2.1, fun h18 => ?_⟩, h.2.1.2.2⟩, h.2.2⟩
    have h4' : rI r' 3 e = 4 := h4
    have h18' : (if 18 = 18 ∧ e = k then (if rI r' 3 k = 4 then (1 : Int32) else rI r' 18 k) else if 18 = 17 ∧ e = k then sS r' 39 else rI r' 18 e) = 0 := h18
    by_cases he : e = k
    · rw [if_pos ⟨rfl, he⟩, if_pos (by rw [← he]; exact h4')] at h18'; exact absurd h18' (by decide)
    · rw [if_neg (fun q => he q.2), if_neg (fun q => by omega)] at h18'
      exact (h.2.1.2.1 h4).2.2 h18'
  · have h := hI.2.2.2.2.2.2.2.2.2.1 e a b c
    show 0 ≤ (if 17 = 18 ∧ e = k then (if rI r' 3 k = 4 then 1 else rI r' 18 k) else if 17 = 17 ∧ e = k then sS r' 39 else rI r' 17 e) ∧ (if 17 = 18 ∧ e = k then (if rI r' 3 k = 4 then 1 else rI r' 18 k) else if 17 = 17 ∧ e = k then sS r' 39 else rI r' 17 e) ≤ sS r' 39
    rw [if_neg (fun q => by omega)]
    by_cases he : e = k
    · rw [if_pos ⟨rfl, he⟩]; exact ⟨hI.2.2.2.2.2.1, Int32.le_refl _⟩
    · rw [if_neg (fun q => he q.2)]; exact h
theorem c_recT {w : Wd} {r' : Rs} {t : Nat} {T : Int32} (hA : AT (Tm w t T) x m r0 r') {n b q : Nat} {d k : Int32} (hq1 : wK w q = 1) (hq : Ac (Tm w t T) q d k) (h1 : 1 ≤ n) (h2 : n ≤ nE r') (hb : b < ix r' 0 (foR r' n)) : Ct X bX2_recordRelease mX2_recordRelease [vR (eA w x n), vI (nI b), vR q] w (qV fun w' => AT (Tm w' t T) x m r0 (uI (uI r' 28 (60 * n + b) d) 29 (60 * n + b) k) ∧ Fe w w') := by
  have hz : wK w 0 = 0 := hA.2.1.1
  have hCe := hA.2.2.2.1.2.1 n h1 h2
  have k3 : wK w (eA w x n) = 3 := hCe.1.1
  obtain ⟨s1, s2, s3, s4, s5, s6⟩ := sz_of hA h1 h2
  have s2' : wR w 2 1 (eA w x n) = wA w x (whR r' n) := s2
  have s3' : wK w (wA w x (whR r' n)) = 10 := s3
  have s4' : wR w 9 0 (wA w x (whR r' n)) = fA w x (foR r' n) := s4
  have s5' : wK w (fA w x (foR r' n)) = 4 := s5
  have s6' : wI w 3 1 (fA w x (foR r' n)) = nI (ix r' 0 (foR r' n)) := s6
  have hb0 : ¬ nI b < 0 := nI_pos (by omega)
  have hbc : (nI b).toNatClampNeg = b := nI_clamp (by omega)
  have fin : ∀ w', AT (Tm w' t T) x m r0 r' → wK w' q = 1 → Ac (Tm w' t T) q d k → eA w' x n = eA w x n → wR w' 2 6 (eA w x n) ≠ 0 → Fe w w' → (∀ v, Fe w (yR w' (wR w' 2 6 (eA w x n)) b v)) → jX2_recordRelease_24 X (fun w' => AT (Tm w' t T) x m r0 (uI (uI r' 28 (60 * n + b) d) 29 (60 * n + b) k) ∧ Fe w w') (eA w x n) (nI b) q w' := by
    intro w' hA' hq1' hq' he hne hF hFy
    have hCe' := hA'.2.2.2.1.2.1 n h1 h2
    have he' : eA (Tm w' t T) x n = eA w x n := he
    rw [he'] at hCe'
    rcases hCe'.2.2 with h5 | ⟨h5, h6, h7, h8⟩
    · exact absurd h5.1 hne
    · have h6' : wK w' (wR w' 2 6 (eA w x n)) = 16 := h6
      have h7' : wL w' (wR w' 2 6 (eA w x n)) = ix r' 0 (foR r' n) := h7
      refine tX2_recordRelease_24 X _ _ _ _ w' ⟨fun z => absurd z hb0, fun _ => ⟨hCe'.1.1, h6', fun z => ?_, fun z => ⟨hq1', ?_, ?_⟩⟩⟩
      · exfalso
        rw [h7'] at z
        have z : nI (ix r' 0 (foR r' n)) ≤ nI b := z
        rw [nI_leI (by omega) (by omega)] at z
        omega
      · rw [h7']; exact inN hb (by omega)
      · rw [hbc]
        rintro w7 rfl
        have := AT_relPut hA' hq' h1 h2 hb (by rw [he']; exact hne)
        rw [he'] at this
        exact ⟨this, hFy q⟩
  have feY : ∀ (w' : Wd) (a i v : Nat), Fe w w' → (wK w a ≠ 0 → wK w a = 16) → Fe w (yR w' a i v) := fun w' a i v hF ha => ⟨hF.1, fun y hy => by
    obtain ⟨g1, g2, g3, g4, g5⟩ := hF.2 y hy
    refine ⟨g1, g2, g3, g4, fun z j => ?_⟩
    rw [← g5 z j]
    show (if y = a ∧ j = i then v else xR w' y j) = _
    rw [if_neg (fun q => z (by rw [q.1]; exact ha (by rw [← q.1]; exact hy)))]⟩
  refine oX2_recordRelease X _ _ _ _ w ⟨k3, fun h => fin w hA hq1 hq rfl h (Fe.rf w) (fun v => feY w _ b v (Fe.rf w) (fun _ => ?_)), fun h => ?_⟩
  · rcases hCe.2.2 with h5 | ⟨h5, h6, -⟩
    · exact absurd h5.1 h
    · exact h6
  rw [s2', s4', s6']
  refine ⟨s3', s5', ⟨nI_pos (by omega), by rw [nI_clamp (by omega)]; exact s1⟩, ?_⟩
  rw [nI_clamp (show ix r' 0 (foR r' n) < 2 ^ 31 by omega)]
  rintro q2 hq2 hq20 w6 rfl w8 hw8
  have hq2' : wK (Tm w t T) q2 = 0 := hq2
  have hg := Ag.nA (w := Tm w t T) 16 q2 (ix r' 0 (foR r' n)) hq2'
  have hz6 : wK (nA (Tm w t T) 16 q2 (ix r' 0 (foR r' n))) 0 = 0 := by
    rw [(S_nA (Tm w t T) 16 q2 _).2.2.2.1, if_neg (fun e => hq20 e.symm)]; exact hz
  have hA6 := AG_all hg hz6 hA
  have he6 := (AG_e hg hA).1
  have hgq := hg q (by show wK w q ≠ 0; rw [hq1]; decide)
  have hA8 := AT_relNew (q := q2) hA6 h1 h2 (by rw [he6]; exact h) nA_new (by rw [(S_nA (Tm w t T) 16 q2 _).2.2.2.2.1, if_pos rfl]) (fun p => by rw [(S_nA (Tm w t T) 16 q2 _).2.2.2.2.2.2.2, if_pos rfl]) (fun e a c z => by
      rw [he6] at z
      have z : wR w 2 6 (eA w x e) = q2 := z
      rcases (hA.2.2.2.1.2.1 e a c).2.2 with h5 | h5
      · exact hq20 (by rw [← z]; exact h5.1)
      · have h52 : wK w (wR w 2 6 (eA w x e)) = 16 := h5.2.1
        rw [z, hq2] at h52; cases h52) hq20
  rw [he6] at hA8
  have hw8A : AT (Tm w8 t T) x m r0 r' := by rw [hw8]; exact hA8
  have hF8 : Fe w w8 := by
    rw [hw8]
    refine ⟨?_, fun y hy => ?_⟩
    · show wK (nA w 16 q2 (ix r' 0 (foR r' n))) 0 = _; rw [(S_nA w 16 q2 _).2.2.2.1, if_neg (fun e => hq20 e.symm)]
    · have hyq : y ≠ q2 := fun e => hy (by rw [e]; exact hq2)
      refine ⟨?_, fun _ _ _ => rfl, fun _ _ _ => rfl, fun c k z => ?_, fun _ i => ?_⟩
      · show wK (nA w 16 q2 (ix r' 0 (foR r' n))) y = _; rw [(S_nA w 16 q2 _).2.2.2.1, if_neg hyq]
      · rw [(S_sR _ 2 6 (eA w x n) q2).2.2.2.2.2.2.2, if_neg (fun q => z ⟨q.1, q.2.1⟩)]; rfl
      · show xR (nA w 16 q2 (ix r' 0 (foR r' n))) y i = _; rw [(S_nA w 16 q2 _).2.2.2.2.2.2.2, if_neg hyq]
  have e26 : wR w8 2 6 (eA w x n) = q2 := by rw [hw8]; simp [S_sR]
  have e8 : eA w8 x n = eA w x n := by
    have : eA (nA (Tm w t T) 16 q2 (ix r' 0 (foR r' n))) x n = eA (Tm w t T) x n := by rw [he6]
    rw [hw8]; exact this
  refine fin w8 hw8A (by rw [hw8]; exact hgq.1.trans hq1) (by rw [hw8]; exact Ac_ag hg hq) e8 (by rw [e26]; exact hq20) hF8 (fun v => feY w8 _ b v hF8 (fun z => ?_))
  rw [e26] at z; exact absurd hq2 z
end R4
