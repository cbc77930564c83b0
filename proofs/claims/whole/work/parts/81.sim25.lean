/-! ===== split, hand: what is refused ===== -/
def dvF (r : Rs) (n : Nat) (s : Int64) (ow by' : Bool) : Int32 := if rI r 3 n = 4 then 4 else if rI r 3 n = 6 then 4 else if ow = false then 5 else if s < 0 then 5 else if ¬ s ≤ sumF (rJ r 8) 0 (lvs (fiR r) n) then 5 else if livB r (sS r 39) (sS r 39) n = false then 6 else if by' = true ∧ (rI r 3 n = 2 ∨ rI r 3 n = 3) ∧ ¬ rI r 19 (whR r n) = 0 then 7 else if fiR r n ≠ 0 then 8 else if ¬ nE r ≤ 298 then 10 else 0
theorem c_divideFault {X : Cx} (w : Wd) (x : Nat) (r : Rs) (hz : wK w 0 = 0) (hC : CS w x r) (hI : RI r) (h4 : C4 w x r) (n : Nat) (s : Int64) (ow by' : Bool) (h1 : 1 ≤ n) (h2 : n ≤ nE r) : Ct X bX10_divideFault mX10_divideFault [vR x, vR (eA w x n), vJ s, vI (bI ow), vI (bI by')] w (qI fun v w' => v = dvF r n s ow by' ∧ w' = w) := by
  obtain ⟨hc, hf, hb, hE, hp, hd⟩ := hI
  have hN := hc.2.1.2
  have hCe := h4.2.1 n h1 h2
  obtain ⟨k1, k2, k3⟩ := whole_of_e hE h4.2.2.1 h1 h2
  have hk := h4.2.2.1 _ k1 k2 k3
  have h0 := K_nz hz hCe.1.1
  have hkd : rI r 3 (whR r n) = rI r 3 n := ((hE n h1 h2).2.2.2.1.2.2.1).symm
  refine oX10_divideFault X _ x _ s _ _ w ⟨fun _ => ?_, fun q => absurd q h0⟩
  rw [hCe.1.2.2.1]
  refine ⟨hCe.1.1, hk.1.1, hk.2.2.1.1, oX8_isDivisible X _ _ w ⟨hk.2.2.1.1, ?_⟩⟩
  rw [hk.2.2.1.2.1, hkd]
  refine ⟨fun q => ⟨fun h => absurd rfl h, fun _ => ⟨by simp [dvF, q], rfl⟩⟩, fun q => ⟨fun q2 => ⟨fun h => absurd rfl h, fun _ => ⟨by simp [dvF, q2], rfl⟩⟩, fun q2 => ⟨fun _ => ?_, fun h => absurd h (by decide)⟩⟩⟩
  rw [lg_lt, bI_0]
  refine ⟨fun ho => ⟨by simp [dvF, q, q2, ho], rfl⟩, fun ho => ⟨fun hs => ⟨by simp [dvF, q, q2, hs], rfl⟩, fun hs => ⟨hk.1.1, (c_owedBelow w x r hz hc hE h4.2.1 h4.2.2.1 n h1 h2).J ?_⟩⟩⟩
  have ho' : ow = true := by simpa using ho
  rintro v w1 ⟨rfl, rfl⟩
  rw [lg_le]
  refine ⟨fun hs2 => ⟨hC.1.1, hk.1.1, (c_livesE w1 x r hz hC hE h4.2.2.1 n h1 h2).I ?_⟩, fun hs2 => ⟨by simp [dvF, q, q2, ho', hs2], rfl⟩⟩
  rintro v w2 ⟨rfl, rfl⟩
  have fin : livB r (sS r 39) (sS r 39) n = true → ¬ (by' = true ∧ (rI r 3 n = 2 ∨ rI r 3 n = 3) ∧ ¬ rI r 19 (whR r n) = 0) → jX10_divideFault_91 X (fun v w' => v = dvF r n s ow by' ∧ w' = w2) x (eA w2 x n) w2 := by
    intro hl hpp
    refine tX10_divideFault_91 X _ _ _ w2 ⟨hCe.1.1, ?_⟩
    have h300 : nI 300 = 300 := by decide
    have h22 : nI 2 = 2 := by decide
    rw [hCe.2.1.2.2.1, hC.2.1.2.1, hc.2.1.1, ← h22, nI_add, ← h300, nI_leI (by omega) (by omega)]
    refine ⟨fun hp => ⟨hC.1.1, fun z => ?_, fun z => ?_⟩, fun hp => ?_⟩
    · rw [bI_0] at hp
      have h5 : fiR r n = 0 := by simpa using hp
      have h6 : nE r ≤ 298 := by omega
      rw [dvF, if_neg q, if_neg q2, if_neg ho, if_neg hs, if_neg (fun y => y hs2), if_neg (by rw [hl]; decide), if_neg hpp, if_neg (fun y => y h5), if_neg (fun y => y h6)]
      exact ⟨rfl, rfl⟩
    · rw [bI_0] at hp
      have h5 : fiR r n = 0 := by simpa using hp
      have h6 : ¬ nE r ≤ 298 := by omega
      rw [dvF, if_neg q, if_neg q2, if_neg ho, if_neg hs, if_neg (fun y => y hs2), if_neg (by rw [hl]; decide), if_neg hpp, if_neg (fun y => y h5), if_pos h6]
      exact ⟨rfl, rfl⟩
    · rw [bI_n] at hp
      have h5 : fiR r n ≠ 0 := by simpa using hp
      rw [dvF, if_neg q, if_neg q2, if_neg ho, if_neg hs, if_neg (fun y => y hs2), if_neg (by rw [hl]; decide), if_neg hpp, if_pos h5]
      exact ⟨rfl, rfl⟩
  refine ⟨fun hl => ?_, fun hl => ?_⟩
  · rw [bI_n] at hl
    rw [bI_0]
    refine ⟨fun hb0 => fin hl (fun z => by rw [hb0] at z; exact absurd z.1 (by decide)), fun hb0 => ⟨hk.1.1, hk.2.2.1.1, oX8_hasPaper X _ _ w2 ⟨hk.2.2.1.1, ?_⟩⟩⟩
    have hb1 : by' = true := by simpa using hb0
    rw [hk.2.2.1.2.1, hkd]
    have pap : (rI r 3 n = 2 ∨ rI r 3 n = 3) → wK w2 (wA w2 x (whR r n)) = 10 ∧ ((¬ (wI w2 9 5 (wA w2 x (whR r n))) = 0) → jX10_divideFault_91 X (fun v w' => v = dvF r n s ow by' ∧ w' = w2) x (eA w2 x n) w2) ∧ (((wI w2 9 5 (wA w2 x (whR r n))) = 0) → (7 : Int32) = dvF r n s ow by' ∧ w2 = w2) := by
      intro h23
      rw [hk.1.2.2.2.2, bI_0, decide_eq_false_iff_not]
      refine ⟨hk.1.1, fun z => fin hl (fun y => z y.2.2), fun z => ?_⟩
      rw [dvF, if_neg q, if_neg q2, if_neg ho, if_neg hs, if_neg (fun y => y hs2), if_neg (by rw [hl]; decide), if_pos ⟨hb1, h23, z⟩]
      exact ⟨rfl, rfl⟩
    refine ⟨fun g2 => ⟨fun z => absurd z (by decide), fun _ => pap (Or.inl g2)⟩, fun g2 => ⟨fun g3 => ⟨fun _ => fin hl (fun y => y.2.1.elim g2 g3), fun z => absurd rfl z⟩, fun g3 => ⟨fun z => absurd z (by decide), fun _ => pap (Or.inr g3)⟩⟩⟩
  · rw [bI_0] at hl
    rw [dvF, if_neg q, if_neg q2, if_neg ho, if_neg hs, if_neg (fun y => y hs2), if_pos hl]
    exact ⟨rfl, rfl⟩
