/-! ===== what the class writes down for itself ===== -/
/-- liesThere, rank, moves, steps of the wholes, due and has of the leaves, a ranking's and a sale's own numbers apart, the same -/
def Sc (w w' : Wd) : Prop := wK w' = wK w ∧ wR w' = wR w ∧ wL w' = wL w ∧ xI w' = xI w ∧ xJ w' = xJ w ∧ xR w' = xR w ∧ (∀ c k, ¬ (c = 9 ∧ 13 ≤ k) → c ≠ 6 → wI w' c k = wI w c k) ∧ (∀ c k, ¬ (c = 2 ∧ (k = 9 ∨ k = 10)) → c ≠ 7 → wJ w' c k = wJ w c k)
theorem Sc.rf (w : Wd) : Sc w w := ⟨rfl, rfl, rfl, rfl, rfl, rfl, fun _ _ _ _ => rfl, fun _ _ _ _ => rfl⟩
theorem Sc.tr {a b c : Wd} (h : Sc a b) (g : Sc b c) : Sc a c := ⟨g.1.trans h.1, g.2.1.trans h.2.1, g.2.2.1.trans h.2.2.1, g.2.2.2.1.trans h.2.2.2.1, g.2.2.2.2.1.trans h.2.2.2.2.1, g.2.2.2.2.2.1.trans h.2.2.2.2.2.1, fun c k p q => (g.2.2.2.2.2.2.1 c k p q).trans (h.2.2.2.2.2.2.1 c k p q), fun c k p q => (g.2.2.2.2.2.2.2 c k p q).trans (h.2.2.2.2.2.2.2 c k p q)⟩
theorem Sc.sI {w w' : Wd} (h : Sc w w') (c k a : Nat) (v : Int32) (hk : (c = 9 ∧ 13 ≤ k) ∨ c = 6) : Sc w (sI w' c k a v) := ⟨h.1, h.2.1, h.2.2.1, h.2.2.2.1, h.2.2.2.2.1, h.2.2.2.2.2.1, fun c' k' p q => by
  rw [← h.2.2.2.2.2.2.1 c' k' p q]; funext b; rw [(S_sI w' c k a v).2.2.2.2.2.2.2, if_neg (fun z => by rcases hk with y | y <;> omega)], h.2.2.2.2.2.2.2⟩
theorem Sc.sJ {w w' : Wd} (h : Sc w w') (c k a : Nat) (v : Int64) (hk : (c = 2 ∧ (k = 9 ∨ k = 10)) ∨ c = 7) : Sc w (sJ w' c k a v) := ⟨h.1, h.2.1, h.2.2.1, h.2.2.2.1, h.2.2.2.2.1, h.2.2.2.2.2.1, h.2.2.2.2.2.2.1, fun c' k' p q => by
  rw [← h.2.2.2.2.2.2.2 c' k' p q]; funext b; rw [(S_sJ w' c k a v).2.2.2.2.2.2.2, if_neg (fun z => by rcases hk with y | y <;> omega)]⟩
theorem Sc.e {w w' : Wd} (h : Sc w w') (x : Nat) : eA w' x = eA w x ∧ wA w' x = wA w x ∧ fA w' x = fA w x := by
  have e1 : eA w' x = eA w x := by funext e; unfold eA; rw [h.2.1, h.2.2.2.2.2.1]
  exact ⟨e1, by funext e; unfold wA; rw [h.2.1, e1], by funext e; unfold fA; rw [h.2.1, h.2.2.2.2.2.1]⟩
set_option maxHeartbeats 2000000 in
theorem AT_Sc {w w' : Wd} {x m : Nat} {r r' : Rs} (hw : Sc w w') (h : AT w x m r r') : AT w' x m r r' := by
  obtain ⟨hM, hD, hC, h4, hI⟩ := h
  obtain ⟨e1, e2, e3⟩ := hw.e x
  have i0 : ∀ c k, ¬ (c = 9 ∧ 13 ≤ k) → c ≠ 6 → wI w' c k = wI w c k := hw.2.2.2.2.2.2.1
  have j0 : ∀ c k, ¬ (c = 2 ∧ (k = 9 ∨ k = 10)) → c ≠ 7 → wJ w' c k = wJ w c k := hw.2.2.2.2.2.2.2
  have ii : ∀ c, c ≠ 9 → c ≠ 6 → wI w' c = wI w c := fun c p q => by funext k; exact i0 c k (fun z => p z.1) q
  have jj : ∀ c, c ≠ 2 → c ≠ 7 → wJ w' c = wJ w c := fun c p q => by funext k; exact j0 c k (fun z => p z.1) q
  refine ⟨MO_mv (fun a _ => ⟨by rw [hw.1], by rw [hw.2.2.1]⟩) (fun k => by rw [hw.2.1]) (fun k => by rw [ii 11 (by decide) (by decide)]) (by rw [jj 11 (by decide) (by decide)]) (fun k i _ _ => ⟨by rw [hw.2.2.2.1], by rw [hw.2.2.2.2.1]⟩) hM, ?_, ?_, ?_, hI⟩
  · unfold DI ca at *
    rw [hw.1, hw.2.1]; exact hD
  · unfold CS dnow at *
    simp only [hw.1, hw.2.1, hw.2.2.1, hw.2.2.2.1, ii 10 (by decide) (by decide), ii 4 (by decide) (by decide), ii 1 (by decide) (by decide), jj 10 (by decide) (by decide)]
    exact hC
  · unfold C4 CF CE CW CP CX CL Ac at *
    simp only [e1, e2, e3, hw.1, hw.2.1, hw.2.2.1, hw.2.2.2.2.2.1, ii 0 (by decide) (by decide), ii 2 (by decide) (by decide), ii 3 (by decide) (by decide), ii 5 (by decide) (by decide), ii 8 (by decide) (by decide), i0 9 5 (by decide) (by decide), jj 3 (by decide) (by decide), jj 5 (by decide) (by decide), jj 8 (by decide) (by decide), jj 9 (by decide) (by decide), j0 2 4 (by decide) (by decide), j0 2 11 (by decide) (by decide), j0 2 12 (by decide) (by decide)]
    exact h4
