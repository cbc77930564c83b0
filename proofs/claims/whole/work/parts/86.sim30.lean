/-! ===== split, hand: the invariant of the reference's new state ===== -/
theorem pt_RI {r : Rs} {n : Nat} {s : Int64} {ow : Int32} (hI : RI r) (h1 : 1 ≤ n) (h2 : n ≤ nE r) (hn : nE r ≤ 298) (hlf : fiR r n = 0) (hk : rI r 3 n ≠ 6) : RI (ptR r (nE r + 1) n s ow) := by
  have hIn := hI.2.2.2.1 n h1 h2
  have hF := hI.1.1.2
  have hwn := hIn.2.1.2.1
  have hfn := hIn.2.2.2.1.1
  have hN : nE (ptR r (nE r + 1) n s ow) = nE r + 1 + 1 := pt_nE _ _ _ _ _ (by omega)
  have hpa := pt_pa r (nE r + 1) n s ow (by omega)
  have hfi := pt_fi r (nE r + 1) n s ow (by omega)
  have hwh := pt_wh r (nE r + 1) n s ow (by omega)
  have hfo := pt_fo r (nE r + 1) n s ow (by omega)
  refine ⟨⟨hI.1.1, ⟨?_, ?_⟩, hI.1.2.2⟩, hI.2.1, ⟨hI.2.2.1.1, fun e he => ?_, hI.2.2.1.2.2.1, fun e a b => ?_, fun e a b => ?_⟩, fun e a b => ?_, fun q a b => ?_, hI.2.2.2.2.2⟩
  · rw [hN]; rfl
  · rw [hN]; omega
  · rw [hN] at he
    exact hI.2.2.1.2.1 e (by omega)
  · rw [hN] at b
    rw [pt_3, hpa]
    by_cases e1 : e = nE r + 1 + 1
    · rw [if_pos e1]; intro z; exact absurd z hk
    · by_cases e2 : e = nE r + 1
      · rw [if_neg e1, if_pos e2]; intro z; exact absurd z hk
      · rw [if_neg e1, if_neg e2, if_neg e1, if_neg e2]; exact hI.2.2.1.2.2.2.1 e a (by omega)
  · rw [hN] at b
    rw [pt_r11, hpa]
    by_cases e1 : e = nE r + 1 + 1
    · rw [if_pos e1]; intro z; omega
    · by_cases e2 : e = nE r + 1
      · rw [if_neg e1, if_pos e2]; intro z; omega
      · rw [if_neg e1, if_neg e2]; exact hI.2.2.1.2.2.2.2 e a (by omega)
  · rw [hN] at b
    unfold RIe
    simp only [pt_3, pt_4, pt_5, pt_6, pt_9, pt_r21, pt_r24, pt_r25, pt_x24, pt_x25, hpa, hfi, hwh, hfo, hN, pt_nF]
    have w1 : ¬ whR r n = nE r + 1 + 1 := by omega
    have w2 : ¬ whR r n = nE r + 1 := by omega
    have n1 : ¬ n = nE r + 1 + 1 := by omega
    have n2 : ¬ n = nE r + 1 := by omega
    have new : ∀ e', (e' = nE r + 1 + 1 ∨ e' = nE r + 1) → rI r 24 e' = 0 ∧ rI r 25 e' = 0 ∧ ix r 24 e' = 0 ∧ ix r 25 e' = 0 := fun e' he' => by
      have := hI.2.2.1.2.1 e' (by omega)
      exact ⟨this.2.2.1, this.2.2.2.1, by unfold ix; rw [this.2.2.1]; rfl, by unfold ix; rw [this.2.2.2.1]; rfl⟩
    by_cases e1 : e = nE r + 1 + 1
    · obtain ⟨z1, z2, z3, z4⟩ := new e (Or.inl e1)
      have e3 : ¬ e = n := by omega
      simp only [z1, z2, z3, z4, if_pos e1, if_neg e3, if_neg w1, if_neg w2, if_neg n1, if_neg n2, if_true]
      refine ⟨⟨trivial, trivial, trivial, rfl, rfl, rfl⟩, ⟨hIn.2.1.1, by omega, hIn.2.1.2.2.1, ⟨fun z => by omega, fun z => by omega⟩, fun _ => trivial⟩, ⟨by omega, fun _ => Or.inr e1.symm, fun z => absurd rfl z⟩, ⟨hfn, hIn.2.2.2.1.2.1, hIn.2.2.2.1.2.2.1, hIn.2.2.2.1.2.2.2⟩, ⟨by omega, by omega, Or.inl trivial, fun z => absurd rfl z, fun z => absurd rfl z⟩⟩
    · by_cases e2 : e = nE r + 1
      · obtain ⟨z1, z2, z3, z4⟩ := new e (Or.inr e2)
        have e3 : ¬ e = n := by omega
        simp only [z1, z2, z3, z4, if_neg e1, if_pos e2, if_neg e3, if_neg w1, if_neg w2, if_neg n1, if_neg n2, if_true]
        refine ⟨⟨trivial, trivial, trivial, rfl, rfl, rfl⟩, ⟨hIn.2.1.1, by omega, hIn.2.1.2.2.1, ⟨fun z => by omega, fun z => by omega⟩, fun _ => trivial⟩, ⟨by omega, fun _ => Or.inl e2.symm, fun z => absurd rfl z⟩, ⟨hfn, hIn.2.2.2.1.2.1, hIn.2.2.2.1.2.2.1, hIn.2.2.2.1.2.2.2⟩, ⟨by omega, by omega, Or.inl trivial, fun z => absurd rfl z, fun z => absurd rfl z⟩⟩
      · obtain ⟨p, q, c, g, h⟩ := hI.2.2.2.1 e a (by omega)
        have v1 : ¬ whR r e = nE r + 1 + 1 := by omega
        have v2 : ¬ whR r e = nE r + 1 := by omega
        have u1 : ¬ paR r e = nE r + 1 + 1 := by omega
        have u2 : ¬ paR r e = nE r + 1 := by omega
        simp only [if_neg e1, if_neg e2, if_neg v1, if_neg v2, if_neg u1, if_neg u2]
        refine ⟨⟨p.1, p.2.1, p.2.2.1, ?_, p.2.2.2.2⟩, q, ⟨c.1, fun z => ?_, fun z => ?_⟩, g, ⟨by omega, by omega, h.2.2.1, fun z => ?_, fun z => ?_⟩⟩
        · by_cases e3 : e = n
          · rw [if_pos e3, if_pos e3]
          · rw [if_neg e3, if_neg e3]; exact p.2.2.2.1
        · have y := c.2.1 z
          have y2 : ¬ paR r e = n := fun y3 => by rw [y3, hlf] at y; have := c.1; omega
          rw [if_neg y2]; exact y
        · by_cases e3 : e = n
          · rw [if_pos e3]
            refine ⟨by omega, by omega, ?_, ?_⟩
            · rw [if_neg (by omega), if_pos rfl, e3]
            · rw [if_pos rfl, e3]
          · rw [if_neg e3] at z ⊢
            obtain ⟨y1, y2, y3, y4⟩ := c.2.2 z
            refine ⟨y1, by omega, ?_, ?_⟩
            · rw [if_neg (by omega), if_neg (by omega)]; exact y3
            · rw [if_neg (by omega), if_neg (by omega)]; exact y4
        · obtain ⟨y1, y2, y3, y4⟩ := h.2.2.2.1 z
          refine ⟨y1, y2, ?_, y4⟩
          rw [if_neg (by omega), if_neg (by omega)]; exact y3
        · obtain ⟨y1, y2, y3, y4⟩ := h.2.2.2.2 z
          refine ⟨y1, y2, ?_, y4⟩
          rw [if_neg (by omega), if_neg (by omega)]; exact y3
  · obtain ⟨p, b', c, g, h, i⟩ := hI.2.2.2.2.1 q a b
    refine ⟨p, b', ?_, g, h, ?_⟩
    · rw [hN]; exact Nat.le_succ_of_le (Nat.le_succ_of_le c)
    · rw [hN]; exact Nat.le_succ_of_le (Nat.le_succ_of_le i)
