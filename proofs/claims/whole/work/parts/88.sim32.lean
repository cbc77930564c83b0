/-! ===== split, hand: the folios' chains stay ===== -/
theorem pt_ch {r : Rs} {n : Nat} {s : Int64} {ow : Int32} (h1 : 1 ≤ n) (h2 : n ≤ nE r) (hn : nE r ≤ 298) (hf : foR r n < 2 ^ 31) (g : Nat) : chF (ptR r (nE r + 1) n s ow) g = chF r g := by
  have hN : nE (ptR r (nE r + 1) n s ow) = nE r + 1 + 1 := pt_nE _ _ _ _ _ (by omega)
  have hpa := pt_pa r (nE r + 1) n s ow (by omega)
  have hfo := pt_fo r (nE r + 1) n s ow hf
  have key : ∀ k, k ≤ nE r → chN (ptR r (nE r + 1) n s ow) g k = chN r g k := by
    intro k
    induction k with
    | zero => intro _; rfl
    | succ k ih =>
      intro hk
      unfold chN
      rw [ih (by omega), hpa, hfo, if_neg (show ¬ k + 1 = nE r + 1 + 1 by omega), if_neg (show ¬ k + 1 = nE r + 1 by omega), if_neg (show ¬ k + 1 = nE r + 1 + 1 by omega), if_neg (show ¬ k + 1 = nE r + 1 by omega)]
      split
      · exact insW_congr (by rw [pt_r13]) _ (fun y _ => by rw [pt_r13])
      · rfl
  unfold chF
  rw [hN]
  have q1 : ¬ (paR (ptR r (nE r + 1) n s ow) (nE r + 1 + 1) = 0 ∧ foR (ptR r (nE r + 1) n s ow) (nE r + 1 + 1) = g) := fun z => by have := z.1; rw [hpa, if_pos rfl] at this; omega
  have q2 : ¬ (paR (ptR r (nE r + 1) n s ow) (nE r + 1) = 0 ∧ foR (ptR r (nE r + 1) n s ow) (nE r + 1) = g) := fun z => by have := z.1; rw [hpa, if_neg (show ¬ nE r + 1 = nE r + 1 + 1 by omega), if_pos rfl] at this; omega
  rw [chN, if_neg q1, chN, if_neg q2]
  exact key _ (Nat.le_refl _)
