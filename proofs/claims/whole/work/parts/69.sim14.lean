/-! ===== keep ===== -/
theorem kz {w : Wd} {a c : Nat} (h : wK w a = c + 1) : wK w a ≠ 0 := by omega
theorem sR_back {w : Wd} {c k a v v0 : Nat} (h : wR w c k a = v) : sR (sR w c k a v0) c k a v = w := by
  refine Prod.ext rfl (Prod.ext rfl (Prod.ext rfl (Prod.ext ?_ rfl)))
  funext c' k' a'
  show (if c' = c ∧ k' = k ∧ a' = a then v else if c' = c ∧ k' = k ∧ a' = a then v0 else wR w c' k' a') = wR w c' k' a'
  by_cases hq : c' = c ∧ k' = k ∧ a' = a
  · rw [if_pos hq, hq.1, hq.2.1, hq.2.2, h]
  · rw [if_neg hq, if_neg hq]
theorem ag_undo {w w2 : Wd} {c k a v : Nat} (h : Ag (sR w c k a v) w2) (ha : wK w a ≠ 0) : Ag w (sR w2 c k a (wR w c k a)) ∧ sR (sR w2 c k a (wR w c k a)) c k a v = w2 := by
  refine ⟨fun b hb => ?_, sR_back ?_⟩
  · obtain ⟨h1, h2, h3, h4, h5, h6⟩ := h b hb
    refine ⟨h1, h2, h3, h4, fun c' k' => ?_, h6⟩
    show (if c' = c ∧ k' = k ∧ b = a then wR w c k a else wR w2 c' k' b) = wR w c' k' b
    by_cases hq : c' = c ∧ k' = k ∧ b = a
    · rw [if_pos hq, hq.1, hq.2.1, hq.2.2]
    · rw [if_neg hq, h5]
      show (if c' = c ∧ k' = k ∧ b = a then v else wR w c' k' b) = wR w c' k' b
      rw [if_neg hq]
  · rw [(h a ha).2.2.2.2.1]
    show (if c = c ∧ k = k ∧ a = a then v else wR w c k a) = v
    simp
def oneB (r : Rs) (a b : Nat) : Bool := livB r (sS r 39) (sS r 39) a && livB r (sS r 39) (sS r 39) b && decide (foR r a = foR r b)
theorem c_oneFolio {X : Cx} (w : Wd) (x : Nat) (r : Rs) (hz : wK w 0 = 0) (hC : CS w x r) (hI : RI r) (h4 : C4 w x r) (a b : Nat) (a1 : 1 ≤ a) (a2 : a ≤ nE r) (b1 : 1 ≤ b) (b2 : b ≤ nE r) : Ct X bX10_liveInOneFolio mX10_liveInOneFolio [vR x, vR (wA w x (whR r a)), vR (wA w x (whR r b))] w (qI fun v w' => v = bI (oneB r a b) ∧ w' = w) := by
  have hE := hI.2.2.2.1
  obtain ⟨ka1, ka2, ka3⟩ := whole_of_e hE h4.2.2.1 a1 a2
  have hka := h4.2.2.1 _ ka1 ka2 ka3
  obtain ⟨kb1, kb2, kb3⟩ := whole_of_e hE h4.2.2.1 b1 b2
  have hkb := h4.2.2.1 _ kb1 kb2 kb3
  refine oX10_liveInOneFolio X _ x _ _ w ⟨hC.1.1, hka.1.1, (c_livesE w x r hz hC hE h4.2.2.1 a a1 a2).I ?_⟩
  rintro v w1 ⟨rfl, rfl⟩
  refine ⟨fun hl => ?_, fun hl => ⟨hC.1.1, hkb.1.1, (c_livesE w1 x r hz hC hE h4.2.2.1 b b1 b2).I ?_⟩⟩
  · rw [bI_0] at hl; simp [oneB, hl, bI]
  rintro v w2 ⟨rfl, rfl⟩
  rw [bI_n] at hl
  refine ⟨fun hm => ?_, fun hm => ⟨hka.1.1, hkb.1.1, ?_⟩⟩
  · rw [bI_0] at hm; simp [oneB, hm, bI]
  rw [bI_n] at hm
  rw [hka.1.2.1, hkb.1.2.1, ← (hE a a1 a2).2.2.2.1.2.1, ← (hE b b1 b2).2.2.2.1.2.1]
  refine ⟨fun hf => ?_, fun hf => ?_⟩
  · have : foR r a ≠ foR r b := fun e => hf (by rw [e])
    simp [oneB, this, bI]
  · have := fA_inj hI.1 h4.1 (hE a a1 a2).2.2.2.1.1 (hE b b1 b2).2.2.2.1.1 hf
    simp [oneB, hl, hm, this, bI]
/-- a whole keeps nothing and is not kept -/
theorem prt0 {w : Wd} {x : Nat} {r : Rs} (hz : wK w 0 = 0) (hE : RIE r) (hW : CW w x r) {k : Nat} (h1 : 1 ≤ k) (h2 : k ≤ nE r) (h3 : paR r k = 0) : wR w 9 6 (wA w x k) = 0 ↔ ix r 24 k = 0 ∧ ix r 25 k = 0 := by
  have h := (hW k h1 h2 h3).2.2.2.1.1
  have q := (hE k h1 h2).2.2.2.2
  rw [h]
  by_cases h0 : ix r 24 k + ix r 25 k = 0
  · rw [if_pos h0]; omega
  · rw [if_neg h0]
    refine ⟨fun e => ?_, fun e => by omega⟩
    by_cases h4 : ix r 24 k = 0
    · have h5 : ix r 25 k ≠ 0 := by omega
      rw [h4, Nat.zero_add] at e
      exact absurd e (K_nz hz (hW _ (by omega) q.2.1 (q.2.2.2.2 h5).2.2.1).1.1)
    · have h5 : ix r 25 k = 0 := by omega
      rw [h5, Nat.add_zero] at e
      exact absurd e (K_nz hz (hW _ (by omega) q.1 (q.2.2.2.1 h4).2.2.1).1.1)
def kpF (r : Rs) (c n : Nat) : Int32 := if ¬ rI r 3 c = 6 then 4 else if rI r 3 n = 6 then 4 else if paR r n ≠ 0 then 4 else if oneB r c n = false then 6 else if rI r 13 n - rI r 13 c < 0 then 8 else if rI r 11 c < rI r 13 n - rI r 13 c then 8 else if ix r 24 c ≠ 0 then 8 else if ix r 25 n ≠ 0 then 8 else 0
theorem c_keepFault {X : Cx} (w : Wd) (x : Nat) (r : Rs) (hz : wK w 0 = 0) (hC : CS w x r) (hI : RI r) (h4 : C4 w x r) (c n : Nat) (c1 : 1 ≤ c) (c2 : c ≤ nE r) (h1 : 1 ≤ n) (h2 : n ≤ nE r) : Ct X bX10_keepFault mX10_keepFault [vR x, vR (eA w x c), vR (eA w x n)] w (qI fun v w' => v = kpF r c n ∧ w' = w) := by
  have hE := hI.2.2.2.1
  have hCc := h4.2.1 c c1 c2
  have hCn := h4.2.1 n h1 h2
  obtain ⟨ka1, ka2, ka3⟩ := whole_of_e hE h4.2.2.1 c1 c2
  have hkc := h4.2.2.1 _ ka1 ka2 ka3
  obtain ⟨kb1, kb2, kb3⟩ := whole_of_e hE h4.2.2.1 h1 h2
  have hkn := h4.2.2.1 _ kb1 kb2 kb3
  refine oX10_keepFault X _ x _ _ w ⟨fun q => absurd q (K_nz hz hCc.1.1), fun _ => ⟨fun _ => ?_, fun q => absurd q (K_nz hz hCn.1.1)⟩⟩
  rw [hCc.1.2.2.1, hCn.1.2.2.1, hCn.1.2.2.2, hkc.2.2.1.2.1, hkn.2.2.1.2.1, ← (hE c c1 c2).2.2.2.1.2.2.1, ← (hE n h1 h2).2.2.2.1.2.2.1]
  refine ⟨hCc.1.1, hCn.1.1, hkc.1.1, hkc.2.2.1.1, fun q => by simp [kpF, q], fun q6 => ⟨hkn.1.1, hkn.2.2.1.1, fun q => by simp [kpF, q], fun qn => ⟨fun hp0 => ⟨hC.1.1, (c_oneFolio w x r hz hC hI h4 c n c1 c2 h1 h2).I ?_⟩, fun hp0 => ?_⟩⟩⟩
  · rw [par0 hz hE h4.2.1 h1 h2] at hp0
    have hpc := hI.2.2.1.2.2.2.1 c c1 c2 q6
    have hwc : whR r c = c := (hE c c1 c2).2.1.2.2.2.1.mp hpc
    have hwn : whR r n = n := (hE n h1 h2).2.1.2.2.2.1.mp hp0
    have han := hkn.2.1.2.1.2 hkn.2.1.1
    have hac := hkc.2.1.2.1.2 hkc.2.1.1
    have hrt := hkc.2.2.1.2.2.1
    rw [hwn] at han hkn
    rw [hwc] at hac hkc hrt
    rintro v w1 ⟨rfl, rfl⟩
    rw [hwn, hwc, han.2.1, hac.2.1, hrt]
    have h25 : ix r 25 c = 0 := Classical.byContradiction fun z => ((hE c c1 c2).2.2.2.2.2.2.2.2 z).1 q6
    have h24 : ix r 24 n = 0 := Classical.byContradiction fun z => qn ((hE n h1 h2).2.2.2.2.2.2.2.1 z).1
    refine ⟨fun hl => ⟨hkn.1.1, han.1, hkc.1.1, hac.1, fun hd => ?_, fun hd => ⟨hkc.2.2.1.1, fun hr => ?_, fun hr => ?_⟩⟩, fun hl => ?_⟩
    · rw [bI_n] at hl
      refine tX10_keepFault_108 X _ _ _ _ _ ⟨fun _ => ?_, fun q => absurd rfl q⟩
      simp [kpF, q6, qn, hp0, hl, hd]
    · rw [bI_n] at hl
      refine tX10_keepFault_108 X _ _ _ _ _ ⟨fun _ => ?_, fun q => absurd rfl q⟩
      simp [kpF, q6, qn, hp0, hl, hd, hr]
    · rw [bI_n] at hl
      refine tX10_keepFault_108 X _ _ _ _ _ ⟨fun q => absurd q (by decide), fun _ => ⟨hkc.1.1, ?_⟩⟩
      rw [prt0 hz hE h4.2.2.1 c1 c2 hpc, prt0 hz hE h4.2.2.1 h1 h2 hp0]
      refine ⟨fun h => ?_, fun h => ⟨hkn.1.1, fun h' => ?_, fun h' => ?_⟩⟩
      · have : ix r 24 c ≠ 0 := fun z => h ⟨z, h25⟩
        simp [kpF, q6, qn, hp0, hl, hd, hr, this]
      · simp [kpF, q6, qn, hp0, hl, hd, hr, h.1, h'.2]
      · have : ix r 25 n ≠ 0 := fun z => h' ⟨h24, z⟩
        simp [kpF, q6, qn, hp0, hl, hd, hr, h.1, this]
    · rw [bI_0] at hl
      simp [kpF, q6, qn, hp0, hl]
  · rw [par0 hz hE h4.2.1 h1 h2] at hp0
    simp [kpF, hp0]
theorem AT_keep {w : Wd} {x m q c n : Nat} {r r' : Rs} {d k : Int32} (hA : AT w x m r r') (hq : Ac w q d k) (hk1 : k ≠ -1) (c1 : 1 ≤ c) (c2 : c ≤ nE r') (h1 : 1 ≤ n) (h2 : n ≤ nE r') (hp : paR r' n = 0) (hc6 : rI r' 3 c = 6) (hn6 : rI r' 3 n ≠ 6) (hc0 : ix r' 24 c = 0) (hn0 : ix r' 25 n = 0) (hfo : foR r' n = foR r' c) :
    AT (sR (sR (sR w 9 6 (wA w x c) (wA w x n)) 9 7 (wA w x c) q) 9 6 (wA w x n) (wA w x c)) x m r (uI (uI (uI (uI r' 24 c (nI n)) 25 n (nI c)) 26 n d) 27 n k) := by
  obtain ⟨hM, hD, hC, ⟨hF, hE, hW, ⟨pl, hP⟩, hX⟩, hI⟩ := hA
  have hRE := hI.2.2.2.1
  have hN := hI.1.2.1.2
  have hpc := hI.2.2.1.2.2.2.1 c c1 c2 hc6
  have hcn : c ≠ n := fun e => hn6 (by rw [← e]; exact hc6)
  have hc5 : ix r' 25 c = 0 := Classical.byContradiction fun z => ((hRE c c1 c2).2.2.2.2.2.2.2.2 z).1 hc6
  have hn4 : ix r' 24 n = 0 := Classical.byContradiction fun z => hn6 ((hRE n h1 h2).2.2.2.2.2.2.2.1 z).1
  have i24 : ∀ j, ix (uI (uI (uI (uI r' 24 c (nI n)) 25 n (nI c)) 26 n d) 27 n k) 24 j = if j = c then n else ix r' 24 j := by
    intro j
    show (if 24 = 24 ∧ j = c then nI n else rI r' 24 j).toNatClampNeg = _
    by_cases hj : j = c
    · rw [if_pos ⟨rfl, hj⟩, if_pos hj]; exact nI_clamp (by omega)
    · rw [if_neg (fun z => hj z.2), if_neg hj]; rfl
  have i25 : ∀ j, ix (uI (uI (uI (uI r' 24 c (nI n)) 25 n (nI c)) 26 n d) 27 n k) 25 j = if j = n then c else ix r' 25 j := by
    intro j
    show (if 25 = 25 ∧ j = n then nI c else rI r' 25 j).toNatClampNeg = _
    by_cases hj : j = n
    · rw [if_pos ⟨rfl, hj⟩, if_pos hj]; exact nI_clamp (by omega)
    · rw [if_neg (fun z => hj z.2), if_neg hj]; rfl
  refine ⟨MO_sR 9 6 _ _ (by decide) (MO_sR 9 7 _ _ (by decide) (MO_sR 9 6 _ _ (by decide) hM)), hD, hC, ⟨CF_R (w := w) (r := r') rfl rfl rfl rfl rfl rfl rfl rfl rfl rfl rfl rfl rfl rfl rfl hF, hE, fun j a b e => ?_, ⟨pl, hP⟩, hX⟩, hI.1, hI.2.1, ⟨hI.2.2.1.1, fun e he => ?_, hI.2.2.1.2.2.1, hI.2.2.1.2.2.2.1, hI.2.2.1.2.2.2.2.1, fun e a b => ?_⟩, fun e a b => ?_, hI.2.2.2.2⟩
  · have h := hW j a b e
    refine ⟨h.1, h.2.1, h.2.2.1, ?_, h.2.2.2.2⟩
    rw [i24, i25]
    show (if 9 = 9 ∧ 6 = 6 ∧ wA w x j = wA w x n then wA w x c else if 9 = 9 ∧ 6 = 6 ∧ wA w x j = wA w x c then wA w x n else wR w 9 6 (wA w x j)) = (if (if j = c then n else ix r' 24 j) + (if j = n then c else ix r' 25 j) = 0 then 0 else wA w x ((if j = c then n else ix r' 24 j) + (if j = n then c else ix r' 25 j))) ∧
      (rI r' 3 j = 6 → ((if j = c then n else ix r' 24 j) = 0 → (if 9 = 9 ∧ 7 = 7 ∧ wA w x j = wA w x c then q else wR w 9 7 (wA w x j)) = 0) ∧ ((if j = c then n else ix r' 24 j) ≠ 0 → (if 27 = 27 ∧ (if j = c then n else ix r' 24 j) = n then k else rI r' 27 (if j = c then n else ix r' 24 j)) ≠ -1 ∧ Ac w (if 9 = 9 ∧ 7 = 7 ∧ wA w x j = wA w x c then q else wR w 9 7 (wA w x j)) (if 26 = 26 ∧ (if j = c then n else ix r' 24 j) = n then d else rI r' 26 (if j = c then n else ix r' 24 j)) (if 27 = 27 ∧ (if j = c then n else ix r' 24 j) = n then k else rI r' 27 (if j = c then n else ix r' 24 j))))
    by_cases hjc : j = c
    · subst hjc
      have z : wA w x j ≠ wA w x n := fun e' => hcn (wA_inj hI.1 hE hW a b e h1 h2 hp e')
      have z0 : n ≠ 0 := by omega
      simp [z, hcn, hc5, z0, hk1, hq]
    · have z1 : wA w x j ≠ wA w x c := fun e' => hjc (wA_inj hI.1 hE hW a b e c1 c2 hpc e')
      by_cases hjn : j = n
      · subst hjn
        have z0 : c ≠ 0 := by omega
        simp [hn6, hjc, hn4, z0]
      · have z2 : wA w x j ≠ wA w x n := fun e' => hjn (wA_inj hI.1 hE hW a b e h1 h2 hp e')
        simp only [hjc, hjn, z1, z2, and_false, if_false]
        refine ⟨h.2.2.2.1.1, fun h6 => ⟨(h.2.2.2.1.2 h6).1, fun h7 => ?_⟩⟩
        have z3 : ix r' 24 j ≠ n := fun e' => by
          have := ((hRE j a b).2.2.2.2.2.2.2.1 h7).2.2.2
          rw [e', hn0] at this; omega
        simp only [z3, and_false, if_false]
        exact (h.2.2.2.1.2 h6).2 h7
  · have z := hI.2.2.1.2.1 e he
    have : nE r' < e := he
    refine ⟨z.1, z.2.1, ?_, ?_, z.2.2.2.2⟩
    · show (if 24 = 24 ∧ e = c then nI n else rI r' 24 e) = 0
      rw [if_neg (fun y => by omega)]; exact z.2.2.1
    · show (if 25 = 25 ∧ e = n then nI c else rI r' 25 e) = 0
      rw [if_neg (fun y => by omega)]; exact z.2.2.2.1
  · have h := hI.2.2.1.2.2.2.2.2 e a b
    refine ⟨⟨?_, h.1.2⟩, h.2⟩
    rw [i24]
    show (if e = c then n else ix r' 24 e) ≠ 0 → foR r' (if e = c then n else ix r' 24 e) = foR r' e
    by_cases hj : e = c
    · rw [if_pos hj, hj]; exact fun _ => hfo
    · rw [if_neg hj]; exact h.1.1
  · have h := hRE e a b
    refine ⟨⟨h.1.1, h.1.2.1, h.1.2.2.1, h.1.2.2.2.1, ?_, ?_⟩, h.2.1, h.2.2.1, h.2.2.2.1, ?_⟩
    · rw [i24]
      show (if 24 = 24 ∧ e = c then nI n else rI r' 24 e) = _
      by_cases hj : e = c
      · rw [if_pos ⟨rfl, hj⟩, if_pos hj]
      · rw [if_neg (fun z => hj z.2), if_neg hj]; exact h.1.2.2.2.2.1
    · rw [i25]
      show (if 25 = 25 ∧ e = n then nI c else rI r' 25 e) = _
      by_cases hj : e = n
      · rw [if_pos ⟨rfl, hj⟩, if_pos hj]
      · rw [if_neg (fun z => hj z.2), if_neg hj]; exact h.1.2.2.2.2.2
    · rw [i24, i25]
      show (if e = c then n else ix r' 24 e) ≤ nE r' ∧ (if e = n then c else ix r' 25 e) ≤ nE r' ∧ ((if e = c then n else ix r' 24 e) = 0 ∨ (if e = n then c else ix r' 25 e) = 0) ∧ ((if e = c then n else ix r' 24 e) ≠ 0 → rI r' 3 e = 6 ∧ paR r' e = 0 ∧ paR r' (if e = c then n else ix r' 24 e) = 0 ∧ ix (uI (uI (uI (uI r' 24 c (nI n)) 25 n (nI c)) 26 n d) 27 n k) 25 (if e = c then n else ix r' 24 e) = e) ∧
        ((if e = n then c else ix r' 25 e) ≠ 0 → rI r' 3 e ≠ 6 ∧ paR r' e = 0 ∧ paR r' (if e = n then c else ix r' 25 e) = 0 ∧ ix (uI (uI (uI (uI r' 24 c (nI n)) 25 n (nI c)) 26 n d) 27 n k) 24 (if e = n then c else ix r' 25 e) = e)
      rw [i24, i25]
      obtain ⟨q1, q2, q3, q4, q5⟩ := h.2.2.2.2
      by_cases hjc : e = c
      · subst hjc
        simp only [hcn, if_true, if_false, hc5]
        exact ⟨h2, by omega, Or.inr trivial, fun _ => ⟨hc6, hpc, hp, trivial⟩, fun z => absurd rfl z⟩
      · by_cases hjn : e = n
        · subst hjn
          simp only [hjc, if_true, if_false, hn4]
          exact ⟨by omega, c2, Or.inl trivial, fun z => absurd rfl z, fun _ => ⟨hn6, hp, hpc, trivial⟩⟩
        · simp only [hjc, hjn, if_false]
          refine ⟨q1, q2, q3, fun z => ?_, fun z => ?_⟩
          · obtain ⟨y1, y2, y3, y4⟩ := q4 z
            refine ⟨y1, y2, y3, ?_⟩
            rw [if_neg (fun e' => by rw [e', hn0] at y4; omega)]; exact y4
          · obtain ⟨y1, y2, y3, y4⟩ := q5 z
            refine ⟨y1, y2, y3, ?_⟩
            rw [if_neg (fun e' => by rw [e', hc0] at y4; omega)]; exact y4
theorem sm_keep (c e : Int32) : SmI bX10_keep mX10_keep bX11_keep mX11_keep [vI c, vI e] := by
  intro X w x m r hA
  have hC := hA.2.2.1
  have hI := hA.2.2.2.2
  have hc := hI.1
  have hE := hI.2.2.2.1
  have h4 := hA.2.2.2.1
  have hN := hc.2.1.2
  have hz := hA.2.1.1
  refine oX10_keep X _ x c e w ⟨hC.1.1, (c_entryAt w x r c hC hc).R ?_⟩
  rintro a w1 ⟨rfl, rfl⟩
  refine ⟨hC.1.1, (c_entryAt w1 x r e hC hc).R ?_⟩
  rintro b w2 ⟨rfl, rfl⟩
  refine ⟨hC.1.1, ?_⟩
  cases hec : entB r c
  · rw [if_neg (by decide)]
    refine oX10_keepFault X _ x 0 _ w2 ⟨fun _ => ⟨hC.1.1, (c_settle w2 x 1 hC.1.1).I ?_⟩, fun q => absurd rfl q⟩
    rintro v w3 ⟨rfl, rfl⟩
    refine ⟨fun _ => ⟨_, AT_st 1 hA, ?_⟩, fun q => absurd rfl q⟩
    have hS := (AT_st 1 hA).1.1
    refine pX11_keep X _ m hS _ c e r ((s_isEntry hS r c).I ?_)
    rintro v r1 ⟨rfl, rfl⟩
    rw [hec]
    exact ⟨fun _ => cm_no hS (Pe.rf _) 1, fun q => absurd rfl q⟩
  obtain ⟨cn, rfl, c1, c2⟩ := ent_of hc hec
  have hcc : (nI cn).toNatClampNeg = cn := nI_clamp (by omega)
  have hvc : vp_in (nI cn) 301 := inN (by omega) (by omega)
  have hCc := h4.2.1 cn c1 c2
  have h0c := K_nz hz hCc.1.1
  rw [if_pos rfl, hcc]
  cases he : entB r e
  · rw [if_neg (by decide)]
    refine oX10_keepFault X _ x _ 0 w2 ⟨fun q => absurd q h0c, fun _ => ⟨fun q => absurd rfl q, fun _ => ⟨hC.1.1, (c_settle w2 x 1 hC.1.1).I ?_⟩⟩⟩
    rintro v w3 ⟨rfl, rfl⟩
    refine ⟨fun _ => ⟨_, AT_st 1 hA, ?_⟩, fun q => absurd rfl q⟩
    have hS := (AT_st 1 hA).1.1
    refine pX11_keep X _ m hS _ _ e r ((s_isEntry hS r _).I ?_)
    rintro v r1 ⟨rfl, rfl⟩
    rw [hec]
    refine ⟨fun q => absurd q (by decide), fun _ => (s_isEntry hS r1 e).I ?_⟩
    rintro v r2 ⟨rfl, rfl⟩
    rw [he]
    exact ⟨fun q => absurd rfl q, fun _ => cm_no hS (Pe.rf _) 1⟩
  obtain ⟨n, rfl, h1, h2⟩ := ent_of hc he
  have hnc : (nI n).toNatClampNeg = n := nI_clamp (by omega)
  have hvn : vp_in (nI n) 301 := inN (by omega) (by omega)
  have hCe := h4.2.1 n h1 h2
  have h0 := K_nz hz hCe.1.1
  rw [if_pos rfl, hnc]
  refine (c_keepFault w2 x r hz hC hI h4 cn n c1 c2 h1 h2).I ?_
  rintro v w3 ⟨rfl, rfl⟩
  refine ⟨hC.1.1, (c_settle w3 x _ hC.1.1).I ?_⟩
  rintro v w4 ⟨rfl, rfl⟩
  have ref : ∀ (w' : Wd), Sh w' m → CM X w' m bX11_keep mX11_keep [vI (nI cn), vI (nI n)] r (pI fun u r1 => (kpF r cn n ≠ 0 → u = 0 ∧ Pe (uS r 41 (kpF r cn n)) r1) ∧ (kpF r cn n = 0 → u = 1 ∧ Pe (uI (uI (uI (uI (uS r 41 0) 24 cn (nI n)) 25 n (nI cn)) 26 n (dnow r)) 27 n (sS r 39)) r1)) := by
    intro w' hS
    have no : ∀ (r' : Rs) (f : Int32), Pe r r' → kpF r cn n = f → f ≠ 0 → CM X w' m bX11_no mX11_no [vI f] r' (pI fun x7 r9 => (x7 = 0 ∨ x7 = 1) ∧ (kpF r cn n ≠ 0 → x7 = 0 ∧ Pe (uS r 41 (kpF r cn n)) r9) ∧ (kpF r cn n = 0 → x7 = 1 ∧ Pe (uI (uI (uI (uI (uS r 41 0) 24 cn (nI n)) 25 n (nI cn)) 26 n (dnow r)) 27 n (sS r 39)) r9)) := by
      intro r' f h hpf hf0
      refine (cm_no hS h f).I ?_
      rintro u r1 ⟨h01, rfl, hq⟩
      rw [hpf]
      exact ⟨h01, fun _ => ⟨rfl, hq⟩, fun q => absurd q hf0⟩
    refine pX11_keep X w' m hS _ _ _ r ((s_isEntry hS r _).I ?_)
    rintro v r1 ⟨rfl, rfl⟩
    rw [hec]
    refine ⟨fun q => absurd q (by decide), fun _ => (s_isEntry hS r1 _).I ?_⟩
    rintro v r2 ⟨rfl, rfl⟩
    rw [he, hcc, hnc, (hE n h1 h2).1.2.2.1, nI_z (show paR r2 n < 2 ^ 31 by have := (hE n h1 h2).2.2.1.1; omega)]
    refine ⟨fun _ => ⟨hvc, fun q => no _ 4 (Pe.rf _) (by simp [kpF, q]) (by decide), fun q6 => ⟨hvn, fun q => no _ 4 (Pe.rf _) (by simp [kpF, q]) (by decide), fun qn => ⟨hvn, fun hp0 => (s_livesNow hS r2 hc hE cn c1 c2).I ?_, fun hp0 => no _ 4 (Pe.rf _) (by simp [kpF, hp0]) (by decide)⟩⟩⟩, fun q => absurd q (by decide)⟩
    rintro v r3 ⟨rfl, rfl⟩
    have hP : Pe r2 (uS (uS r2 45 (sS r2 39)) 46 (sS r2 39)) := pe_now (Pe.rf _) _ _
    have hI3 := RI_mv hP hI
    refine ⟨fun hl => no _ 6 hP (by rw [bI_0] at hl; simp [kpF, q6, qn, hp0, oneB, hl]) (by decide), fun hl => (s_lives hS (uS (uS r2 45 (sS r2 39)) 46 (sS r2 39)) n (by omega) ⟨whR r2 n, by have := (hE n h1 h2).2.1.2.1; omega, (hE n h1 h2).1.2.1⟩).I ?_⟩
    rw [bI_n] at hl
    rintro v r4 ⟨rfl, rfl⟩
    rw [hP.liv]
    have hs45 : sS (uS (uS r2 45 (sS r2 39)) 46 (sS r2 39)) 45 = sS r2 39 := rfl
    have hs46 : sS (uS (uS r2 45 (sS r2 39)) 46 (sS r2 39)) 46 = sS r2 39 := rfl
    rw [hs45, hs46]
    refine ⟨fun hm => no _ 6 hP (by rw [bI_0] at hm; simp [kpF, q6, qn, hp0, oneB, hm]) (by decide), fun hm => ⟨hvc, hvn, ?_⟩⟩
    rw [bI_n] at hm
    rw [hP.2.2.1 4 rfl, (hE cn c1 c2).1.1, (hE n h1 h2).1.1, nI_eq (show foR r2 cn < 2 ^ 31 by have := (hE cn c1 c2).2.2.2.1.1; have := hc.1.2; omega) (show foR r2 n < 2 ^ 31 by have := (hE n h1 h2).2.2.2.1.1; have := hc.1.2; omega)]
    refine ⟨fun hf => ⟨hvn, hvc, ?_⟩, fun hf => no _ 6 hP (by simp [kpF, q6, qn, hp0, oneB, hf]) (by decide)⟩
    have ho : oneB r2 cn n = true := by simp [oneB, hl, hm, hf]
    rw [hP.2.2.1 13 rfl, hP.2.2.1 11 rfl, hP.2.2.1 24 rfl, hP.2.2.1 25 rfl, (hE cn c1 c2).1.2.2.2.2.1, (hE n h1 h2).1.2.2.2.2.2, nI_z (show ix r2 24 cn < 2 ^ 31 by have := (hE cn c1 c2).2.2.2.2.1; omega), nI_z (show ix r2 25 n < 2 ^ 31 by have := (hE n h1 h2).2.2.2.2.2.1; omega)]
    refine ⟨fun hd => no _ 8 hP (by simp [kpF, q6, qn, hp0, ho, hd]) (by decide), fun hd => ⟨hvc, fun hr => no _ 8 hP (by simp [kpF, q6, qn, hp0, ho, hd, hr]) (by decide), fun hr => ⟨hvc, fun h24 => no _ 8 hP (by simp [kpF, q6, qn, hp0, ho, hd, hr, h24]) (by decide), fun h24 => ⟨hvn, fun h25 => ⟨hvc, ?_⟩, fun h25 => no _ 8 hP (by simp [kpF, q6, qn, hp0, ho, hd, hr, h24, h25]) (by decide)⟩⟩⟩⟩
    have hpf : kpF r2 cn n = 0 := by simp [kpF, q6, qn, hp0, ho, hd, hr, h24, h25]
    rintro r5 rfl
    refine ⟨hvn, ?_⟩
    rintro r6 rfl
    have hP6 := pe_cI (pe_cI hP 24 cn (nI n)) 25 n (nI cn)
    refine (s_dateNow hS _).I ?_
    rintro v r7 ⟨rfl, rfl⟩
    rw [hP6.dn]
    refine ⟨hvn, ?_⟩
    rintro r8 rfl
    refine ⟨hvn, ?_⟩
    rintro r9 rfl r10 rfl
    exact ⟨fun z => absurd hpf z, fun _ => ⟨rfl, pe_cS (pe_cI (pe_cI hP6 26 n (dnow r2)) 27 n (sS r2 39)) 41 0⟩⟩
  refine ⟨fun hq => ?_, fun hq => ⟨fun q => absurd q h0c, fun _ => ⟨fun _ => ⟨hCc.1.1, hCe.1.1, ?_⟩, fun q => absurd q h0⟩⟩⟩
  · rw [bI_0] at hq
    have hne : kpF r cn n ≠ 0 := by simpa using hq
    refine ⟨_, AT_st (kpF r cn n) hA, (ref _ (AT_st (kpF r cn n) hA).1.1).I ?_⟩
    rintro u r1 ⟨hu, -⟩
    exact hu hne
  rw [bI_n] at hq
  have hzf : kpF r cn n = 0 := by simpa using hq
  rw [hzf]
  have hA0 := AT_st 0 hA
  have f1 : rI r 3 cn = 6 ∧ rI r 3 n ≠ 6 ∧ paR r n = 0 ∧ ix r 24 cn = 0 ∧ ix r 25 n = 0 := by
    unfold kpF at hzf
    refine ⟨?_, ?_, ?_, ?_, ?_⟩ <;> apply Classical.byContradiction <;> intro z <;> revert hzf <;> simp [z] <;> grind
  obtain ⟨q6, qn, hp0, h24, h25⟩ := f1
  have hfo : foR r n = foR r cn := by
    have ho : oneB r cn n = true := by
      apply Classical.byContradiction; intro z
      have z' : oneB r cn n = false := by simpa using z
      revert hzf; unfold kpF; simp [z', q6, qn, hp0]
    unfold oneB at ho
    simp at ho
    exact ho.2.symm
  have hpc := hI.2.2.1.2.2.2.1 cn c1 c2 q6
  have hwc : whR r cn = cn := (hE cn c1 c2).2.1.2.2.2.1.mp hpc
  have hwn : whR r n = n := (hE n h1 h2).2.1.2.2.2.1.mp hp0
  have ea : wR (sI w3 10 13 x 0) 2 1 (eA w3 x cn) = wA (sI w3 10 13 x 0) x cn := rfl
  have eb : wR (sI w3 10 13 x 0) 2 1 (eA w3 x n) = wA (sI w3 10 13 x 0) x n := rfl
  have hk0 := hA0.2.2.2.1.2.2.1 cn c1 c2 hpc
  rw [ea, eb]
  refine ⟨hk0.1.1, ?_⟩
  rintro w5 rfl
  refine ⟨hC.1.1, (c_newAct (sR (sI w3 10 13 x 0) 9 6 (wA (sI w3 10 13 x 0) x cn) (wA (sI w3 10 13 x 0) x n)) x (uS r 41 0) hA0.2.2.1).R ?_⟩
  intro q w6 hna
  obtain ⟨g1, g2⟩ := ag_undo hna.2.2.1 (by rw [hk0.1.1]; decide)
  have hz6 : wK w6 0 = 0 := hna.2.2.2.1.trans hz
  have hA6 := AG_all g1 hz6 hA0
  have hge := AG_e g1 hA0
  have hAc : Ac (sR w6 9 6 (wA (sI w3 10 13 x 0) x cn) (wR (sI w3 10 13 x 0) 9 6 (wA (sI w3 10 13 x 0) x cn))) q (dnow r) (sS r 39) := hna.Ac (today_ne hA0.2.2.2.2.2.2.2.2.2)
  have hT := AT_keep hA6 hAc (today_ne hA0.2.2.2.2.2.2.2.2.2) c1 c2 h1 h2 hp0 q6 qn h24 h25 hfo
  rw [hge.2.2 cn c1 c2, hge.2.2 n h1 h2, g2] at hT
  have ea2 : wR (sR (sI w3 10 13 x 0) 9 6 (wA (sI w3 10 13 x 0) x cn) (wA (sI w3 10 13 x 0) x n)) 2 1 (eA w3 x cn) = wA (sI w3 10 13 x 0) x cn := rfl
  rw [ea2]
  have hk6 : wK w6 (wA (sI w3 10 13 x 0) x cn) = 10 := by rw [(hna.2.2.1 _ (kz hk0.1.1)).1]; exact hk0.1.1
  refine ⟨hk6, ?_⟩
  rintro w7 rfl
  have hb0 := hA0.2.2.2.1.2.2.1 n h1 h2 hp0
  have ee1 : wR w6 2 1 (eA w3 x n) = wA (sI w3 10 13 x 0) x n := (hna.2.2.1 (eA w3 x n) (kz hCe.1.1)).2.2.2.2.1 2 1
  have ee2 : wR w6 2 1 (eA w3 x cn) = wA (sI w3 10 13 x 0) x cn := (hna.2.2.1 (eA w3 x cn) (kz hCc.1.1)).2.2.2.2.1 2 1
  have e1 : wR (sR w6 9 7 (wA (sI w3 10 13 x 0) x cn) q) 2 1 (eA w3 x n) = wA (sI w3 10 13 x 0) x n := ee1
  have e2 : wR (sR w6 9 7 (wA (sI w3 10 13 x 0) x cn) q) 2 1 (eA w3 x cn) = wA (sI w3 10 13 x 0) x cn := ee2
  rw [e1, e2]
  have kn : wK w6 (eA w3 x n) = 3 := by rw [(hna.2.2.1 _ (kz hCe.1.1)).1]; exact hCe.1.1
  have kc : wK w6 (eA w3 x cn) = 3 := by rw [(hna.2.2.1 _ (kz hCc.1.1)).1]; exact hCc.1.1
  have kb : wK w6 (wA (sI w3 10 13 x 0) x n) = 10 := by rw [(hna.2.2.1 _ (kz hb0.1.1)).1]; exact hb0.1.1
  refine ⟨kn, kc, kb, ?_⟩
  rintro w8 rfl
  refine ⟨_, hT, (ref _ hT.1.1).I ?_⟩
  rintro u r1 ⟨-, hu⟩
  exact hu hzf
