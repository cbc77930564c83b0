/-! ===== settle, folioAt, entryAt; since, choose, tear ===== -/
section C2
variable {X : Cx}
theorem c_settle (w : Wd) (x : Nat) (f : Int32) (hx : wK w x = 11) : Ct X bX10_settle mX10_settle [vR x, vI f] w (qI fun v w' => v = bI (decide (f = 0)) ∧ w' = sI w 10 13 x f) := by
  refine oX10_settle X _ x f w ⟨hx, ?_⟩
  rintro w2 rfl
  refine ⟨fun h => ?_, fun h => ?_⟩
  · simp [h, bI]
  · simp [h, bI]
theorem c_past (w : Wd) (x : Nat) (d : Int32) (hx : wK w x = 11) (hm : wK w (wR w 10 8 x) = 5) : Ct X bX10_isPastOrToday mX10_isPastOrToday [vR x, vI d] w (qI fun v w' => v = bI (!(decide (d < 0)) && !(decide (wI w 4 0 (wR w 10 8 x) < d))) ∧ w' = w) := by
  refine oX10_isPastOrToday X _ x d w ⟨fun h => ?_, fun h => ⟨hx, hm, fun h2 => ?_, fun h2 => ?_⟩⟩
  · simp [h, bI]
  · simp [h2, bI]
  · simp [h, h2, bI]
/-- the folio f, or null -/
theorem c_folioAt (w : Wd) (x : Nat) (r : Rs) (f : Int32) (hC : CS w x r) (hc : RIc r) : Ct X bX10_folioAt mX10_folioAt [vR x, vI f] w (qR fun a w' => w' = w ∧ a = (if f < 0 ∨ sS r 2 ≤ f then 0 else fA w x f.toNatClampNeg)) := by
  refine oX10_folioAt X _ x f w ⟨fun h => ?_, fun h => ⟨hC.1.1, ?_⟩⟩
  · simp [h]
  · rw [hC.2.1.1]
    refine ⟨fun h2 => ?_, fun h2 => ⟨hC.1.2.1, ?_, rfl, ?_⟩⟩
    · simp [h2]
    · obtain ⟨j, hj, rfl⟩ := nI_of h
      rw [hc.1.1, nI_leI (by have := hc.1.2; omega) (by omega)] at h2
      rw [hC.1.2.2.1]
      exact inN (by have := hc.1.2; omega) (by omega)
    · rw [if_neg (by simp [h, h2])]
      rfl
theorem c_entryAt (w : Wd) (x : Nat) (r : Rs) (e : Int32) (hC : CS w x r) (hc : RIc r) : Ct X bX10_entryAt mX10_entryAt [vR x, vI e] w (qR fun a w' => w' = w ∧ a = (if entB r e then eA w x e.toNatClampNeg else 0)) := by
  refine oX10_entryAt X _ x e w ⟨fun h => ?_, fun h => ⟨hC.1.1, ?_⟩⟩
  · simp [entB, h]
  · rw [hC.2.1.2.1]
    refine ⟨fun h2 => ?_, fun h2 => ⟨hC.1.2.2.2.1, ?_⟩⟩
    · simp [entB, h2]
    · have h0 : ¬ e < 0 := by rw [Int32.lt_iff_toInt_lt] at h ⊢; have : (1 : Int32).toInt = 1 := by decide
                              have : (0 : Int32).toInt = 0 := by decide
                              omega
      obtain ⟨j, hj, rfl⟩ := nI_of h0
      have hN := hc.2.1.2
      have h1 : ¬ nI j < nI 1 := h
      rw [nI_ltI (by omega) (by omega)] at h1
      rw [hc.2.1.1, nI_ltI (by omega) (by omega)] at h2
      have hm : nI j - 1 = nI (j - 1) := by
        have := nI_pred (j - 1)
        rwa [show j - 1 + 1 = j by omega] at this
      have hjc : (nI j).toNatClampNeg = j := nI_clamp hj
      rw [hm, nI_clamp (show j - 1 < 2 ^ 31 by omega), hC.1.2.2.2.2.1, hjc]
      refine ⟨inN (by omega) (by omega), rfl, ?_⟩
      have : entB r (nI j) = true := by
        have a1 : ¬ nI j < 1 := h
        have a2 : ¬ sS r 30 < nI j := by rw [hc.2.1.1, nI_ltI (by omega) (by omega)]; exact h2
        simp [entB, a1, a2]
      rw [if_pos this]
      rfl
end C2
/-- the entry's number as a Nat -/
theorem ent_of {r : Rs} (hc : RIc r) {e : Int32} (h : entB r e = true) : ∃ n, e = nI n ∧ 1 ≤ n ∧ n ≤ nE r := by
  have hN := hc.2.1.2
  simp only [entB, Bool.and_eq_true, Bool.not_eq_true', decide_eq_false_iff_not] at h
  have h0 : ¬ e < 0 := by
    have h1 := h.1
    rw [Int32.lt_iff_toInt_lt] at h1 ⊢
    have : (1 : Int32).toInt = 1 := by decide
    have : (0 : Int32).toInt = 0 := by decide
    omega
  obtain ⟨j, hj, rfl⟩ := nI_of h0
  have h1 : ¬ nI j < nI 1 := h.1
  have h2 := h.2
  rw [nI_ltI (by omega) (by omega)] at h1
  rw [hc.2.1.1, nI_ltI (by omega) (by omega)] at h2
  exact ⟨j, rfl, by omega, by omega⟩
theorem ent_nI {r : Rs} (hc : RIc r) {n : Nat} (h1 : 1 ≤ n) (h2 : n ≤ nE r) : entB r (nI n) = true := by
  have hN := hc.2.1.2
  have a1 : ¬ nI n < nI 1 := by rw [nI_ltI (by omega) (by omega)]; omega
  have a2 : ¬ sS r 30 < nI n := by rw [hc.2.1.1, nI_ltI (by omega) (by omega)]; omega
  have a1 : ¬ nI n < 1 := a1
  simp [entB, a1, a2]
/-- RankBook's status is the reference's -/
theorem CS_st {w : Wd} {x : Nat} {r : Rs} (f : Int32) (h : CS w x r) : CS (sI w 10 13 x f) x (uS r 41 f) := by
  unfold CS at *
  simp only [S_sI, R_uS, dnow] at *
  simp
  exact ⟨h.1, ⟨h.2.1.1, h.2.1.2.1, h.2.1.2.2.1, h.2.1.2.2.2.1, h.2.1.2.2.2.2.1, h.2.1.2.2.2.2.2.1, h.2.1.2.2.2.2.2.2.1, h.2.1.2.2.2.2.2.2.2.1, h.2.1.2.2.2.2.2.2.2.2.1⟩, h.2.2⟩
theorem AT_st {w : Wd} {x m : Nat} {r r' : Rs} (f : Int32) (h : AT w x m r r') : AT (sI w 10 13 x f) x m r (uS r' 41 f) :=
  AT_cls h (Sw.sI w 13 x f) rfl rfl rfl rfl (Sr.uS 41 f (by decide) (by decide) (by decide)) (CS_st f h.2.2.1) (show RId r' from h.2.2.2.2.2.2.2.2.2)
theorem AT_day {w : Wd} {x m : Nat} {r r' : Rs} (d : Int32) (h : AT w x m r r') (h0 : ¬ d < 0) (h1 : ¬ sS r' 39 < d) : AT (sI w 10 9 x d) x m r (uS r' 40 d) := by
  have hd : d ≠ -1 := fun q => h0 (by rw [q]; decide)
  refine AT_cls h (Sw.sI w 9 x d) rfl rfl rfl rfl (Sr.uS 40 d (by decide) (by decide) (by decide)) ?_ ?_
  · have h := h.2.2.1
    unfold CS at *
    simp only [S_sI, R_uS, dnow] at *
    simp [hd] at *
    grind
  · have := h.2.2.2.2.2.2.2.2.2
    refine ⟨this.1, this.2.1, Or.inr ⟨?_, ?_⟩, this.2.2.2⟩
    · show (0 : Int32) ≤ d
      rw [Int32.lt_iff_toInt_lt] at h0; rw [Int32.le_iff_toInt_le]; omega
    · show d ≤ sS r' 39
      rw [Int32.lt_iff_toInt_lt] at h1; rw [Int32.le_iff_toInt_le]; omega
theorem sm_since (d : Int32) : SmI bX10_since mX10_since bX11_since mX11_since [vI d] := by
  intro X w x m r hA
  have hC := hA.2.2.1
  refine oX10_since X _ x d w ⟨hC.1.1, (c_past w x d hC.1.1 hC.1.2.2.2.2.2.2).I ?_⟩
  rintro v w1 ⟨rfl, rfl⟩
  rw [hC.2.1.2.2.2.1]
  refine ⟨fun h => ⟨hC.1.1, (c_settle w1 x 5 hC.1.1).I ?_⟩, fun h => ⟨hC.1.1, (c_settle w1 x 0 hC.1.1).I ?_⟩⟩
  · rintro v w2 ⟨rfl, rfl⟩
    refine ⟨fun q => absurd q (by decide), fun _ => ⟨uS r 41 5, AT_st 5 hA, ?_⟩⟩
    have hS := (AT_st 5 hA).1.1
    have no5 : CM X (sI w1 10 13 x 5) m bX11_no mX11_no [vI 5] r (pI fun x2 r4 => (x2 = 0 ∨ x2 = 1) ∧ x2 = 0 ∧ Pe (uS r 41 5) r4) := (s_no hS r 5).I (by rintro u r1 ⟨rfl, rfl⟩; exact ⟨Or.inl rfl, rfl, Pe.rf _⟩)
    rw [bI_0] at h
    refine pX11_since X _ m hS _ d r ⟨fun _ => no5, fun h1 => ⟨fun h2 => ?_, fun _ => no5⟩⟩
    exfalso
    have h2 : ¬ sS r 39 < d := by rw [Int32.lt_iff_toInt_lt]; rw [Int32.le_iff_toInt_le] at h2; omega
    simp [h1, h2] at h
  · rw [bI_n] at h
    simp only [Bool.and_eq_true, Bool.not_eq_true', decide_eq_false_iff_not] at h
    rintro v w2 ⟨rfl, rfl⟩
    refine ⟨fun _ => ⟨hC.1.1, ?_⟩, fun q => absurd q (by decide)⟩
    rintro w3 rfl
    have hT := AT_day d (AT_st 0 hA) h.1 h.2
    refine ⟨_, hT, ?_⟩
    refine pX11_since X _ m hT.1.1 _ d r ⟨fun q => absurd q h.1, fun _ => ⟨fun _ => ?_, fun q => ?_⟩⟩
    · rintro r1 rfl r2 rfl
      refine ⟨rfl, ?_⟩
      have : uS (uS r 41 0) 40 d = uS (uS r 40 d) 41 0 := by
        unfold uS
        congr 1
        funext k
        by_cases h1 : k = 40 <;> by_cases h2 : k = 41 <;> simp [h1, h2]
      rw [this]
      exact Pe.rf _
    · exfalso
      have := h.2
      rw [Int32.lt_iff_toInt_lt] at this
      rw [Int32.le_iff_toInt_le] at q
      omega
theorem CS_ch {w : Wd} {x : Nat} {r : Rs} (f : Int32) (h : CS w x r) : CS (sI w 10 10 x f) x (uS r 42 f) := by
  unfold CS at *
  simp only [S_sI, R_uS, dnow] at *
  simp
  exact ⟨h.1, ⟨h.2.1.1, h.2.1.2.1, h.2.1.2.2.1, h.2.1.2.2.2.1, h.2.1.2.2.2.2.1, h.2.1.2.2.2.2.2.1, h.2.1.2.2.2.2.2.2.2.1, h.2.1.2.2.2.2.2.2.2.2.1, h.2.1.2.2.2.2.2.2.2.2.2⟩, h.2.2⟩
theorem AT_ch {w : Wd} {x m : Nat} {r r' : Rs} (f : Int32) (hf : ¬ f < 0) (h : AT w x m r r') : AT (sI w 10 10 x f) x m r (uS r' 42 f) :=
  AT_cls h (Sw.sI w 10 x f) rfl rfl rfl rfl (Sr.uS 42 f (by decide) (by decide) (by decide)) (CS_ch f h.2.2.1) (by
    have := h.2.2.2.2.2.2.2.2.2
    refine ⟨this.1, this.2.1, this.2.2.1, ?_, this.2.2.2.2⟩
    show (0 : Int32) ≤ f
    rw [Int32.lt_iff_toInt_lt] at hf; rw [Int32.le_iff_toInt_le]; omega)
theorem uS_comm (r : Rs) {j k : Nat} (h : j ≠ k) (a b : Int32) : uS (uS r j a) k b = uS (uS r k b) j a := by
  unfold uS
  congr 1
  funext i
  by_cases h1 : i = j <;> by_cases h2 : i = k <;> simp_all
theorem fA_nz {w : Wd} {x : Nat} {r : Rs} (hz : wK w 0 = 0) (h : CF w x r) {f : Nat} (hf : f < nF r) : fA w x f ≠ 0 := K_nz hz (h f hf).1
theorem le_nlt {a b : Int32} : ¬ a < b ↔ b ≤ a := by rw [Int32.lt_iff_toInt_lt, Int32.le_iff_toInt_le]; omega
theorem lt_nle {a b : Int32} : ¬ a ≤ b ↔ b < a := by rw [Int32.lt_iff_toInt_lt, Int32.le_iff_toInt_le]; omega
theorem fol_of {r : Rs} (hc : RIc r) {f : Int32} (h0 : ¬ f < 0) (h1 : ¬ sS r 2 ≤ f) : ∃ n, f = nI n ∧ n < nF r := by
  obtain ⟨j, hj, rfl⟩ := nI_of h0
  rw [hc.1.1, nI_leI (by have := hc.1.2; omega) (by omega)] at h1
  exact ⟨j, rfl, by omega⟩
theorem sm_choose (f : Int32) : SmI bX10_choose mX10_choose bX11_choose mX11_choose [vI f] := by
  intro X w x m r hA
  have hC := hA.2.2.1
  have hc := hA.2.2.2.2.1
  refine oX10_choose X _ x f w ⟨hC.1.1, (c_folioAt w x r f hC hc).R ?_⟩
  rintro a w1 ⟨rfl, rfl⟩
  by_cases hf : f < 0 ∨ sS r 2 ≤ f
  · rw [if_pos hf]
    refine ⟨fun q => absurd rfl q, fun _ => ⟨hC.1.1, (c_settle w1 x 1 hC.1.1).I ?_⟩⟩
    rintro v w2 ⟨rfl, rfl⟩
    refine ⟨fun q => absurd q (by decide), fun _ => ⟨uS r 41 1, AT_st 1 hA, ?_⟩⟩
    have hS := (AT_st 1 hA).1.1
    have no1 : CM X (sI w1 10 13 x 1) m bX11_no mX11_no [vI 1] r (pI fun x2 r4 => (x2 = 0 ∨ x2 = 1) ∧ x2 = 0 ∧ Pe (uS r 41 1) r4) := (s_no hS r 1).I (by rintro u r1 ⟨rfl, rfl⟩; exact ⟨Or.inl rfl, rfl, Pe.rf _⟩)
    refine pX11_choose X _ m hS _ f r ⟨fun _ => no1, fun h1 => ⟨fun h2 => ?_, fun _ => no1⟩⟩
    exfalso
    rcases hf with hf | hf
    · exact h1 hf
    · rw [← le_nlt] at hf; exact hf h2
  · rw [if_neg hf]
    have h1 : ¬ f < 0 := fun q => hf (Or.inl q)
    have h2 : ¬ sS r 2 ≤ f := fun q => hf (Or.inr q)
    obtain ⟨n, rfl, hn⟩ := fol_of hc h1 h2
    have hnc : (nI n).toNatClampNeg = n := nI_clamp (by have := hc.1.2; omega)
    rw [hnc]
    refine ⟨fun _ => ⟨hC.1.1, (c_settle w1 x 0 hC.1.1).I ?_⟩, fun q => absurd q (fA_nz hA.2.1.1 hA.2.2.2.1.1 hn)⟩
    rintro v w2 ⟨rfl, rfl⟩
    refine ⟨fun _ => ⟨hC.1.1, ?_⟩, fun q => absurd q (by decide)⟩
    rintro w3 rfl
    have hT := AT_ch (nI n) h1 (AT_st 0 hA)
    refine ⟨_, hT, pX11_choose X _ m hT.1.1 _ _ r ⟨fun q => absurd q h1, fun _ => ⟨fun _ => ?_, fun q => absurd (lt_nle.mp h2) q⟩⟩⟩
    rintro r1 rfl r2 rfl
    refine ⟨rfl, ?_⟩
    rw [uS_comm r (by decide)]
    exact Pe.rf _
