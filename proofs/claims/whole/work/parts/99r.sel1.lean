/-! ===== sell: the class carries out ===== -/
def Tm (w : Wd) (t : Nat) (d : Int32) : Wd := sI (sI w 8 3 t d) 8 7 t 1
/-- what the carrying out may write -/
def Fe (w w' : Wd) : Prop := wK w' 0 = wK w 0 ∧ ∀ a, wK w a ≠ 0 → wK w' a = wK w a ∧ (∀ c k, ¬ (c = 8 ∧ (k = 3 ∨ k = 7)) → wI w' c k a = wI w c k a) ∧ (∀ c k, ¬ (c = 2 ∧ k = 4) → wJ w' c k a = wJ w c k a) ∧ (∀ c k, ¬ (c = 2 ∧ k = 6) → wR w' c k a = wR w c k a) ∧ (wK w a ≠ 16 → ∀ i, xR w' a i = xR w a i)
theorem Fe.rf (w : Wd) : Fe w w := ⟨rfl, fun _ _ => ⟨rfl, fun _ _ _ => rfl, fun _ _ _ => rfl, fun _ _ _ => rfl, fun _ _ => rfl⟩⟩
theorem Fe.tr {a b c : Wd} (h : Fe a b) (g : Fe b c) : Fe a c := ⟨g.1.trans h.1, fun y hy => by
  obtain ⟨h1, h2, h3, h4, h5⟩ := h.2 y hy
  obtain ⟨g1, g2, g3, g4, g5⟩ := g.2 y (by rw [h1]; exact hy)
  exact ⟨g1.trans h1, fun c k z => (g2 c k z).trans (h2 c k z), fun c k z => (g3 c k z).trans (h3 c k z), fun c k z => (g4 c k z).trans (h4 c k z), fun z i => (g5 (by rw [h1]; exact z) i).trans (h5 z i)⟩⟩
theorem Fe.s24 (w : Wd) (a : Nat) (v : Int64) : Fe w (sJ w 2 4 a v) := ⟨rfl, fun b _ => ⟨rfl, fun _ _ _ => rfl, fun c k z => by rw [(S_sJ w 2 4 a v).2.2.2.2.2.2.2, if_neg (fun q => z ⟨q.1, q.2.1⟩)], fun _ _ _ => rfl, fun _ _ => rfl⟩⟩
theorem Fe.T (w : Wd) (t : Nat) (d : Int32) : Fe w (Tm w t d) := ⟨rfl, fun b _ => ⟨rfl, fun c k z => by
  unfold Tm
  rw [(S_sI _ 8 7 t 1).2.2.2.2.2.2.2, if_neg (fun q => z ⟨q.1, Or.inr q.2.1⟩), (S_sI _ 8 3 t d).2.2.2.2.2.2.2, if_neg (fun q => z ⟨q.1, Or.inl q.2.1⟩)], fun _ _ _ => rfl, fun _ _ _ => rfl, fun _ _ => rfl⟩⟩
/-- behind the sale: P the leaves settled, K the wholes whose interest runs anew, Q those touched -/
def slS (r : Rs) (p : Nat) (nw : Nat → Int64) (P K Q : Nat → Bool) : Rs := (sS r, sO r, fun k i => if k = 17 ∧ K i = true then sS r 39 else if k = 18 ∧ Q i = true ∧ rI r 3 i = 4 then 1 else if (k = 28 ∨ k = 29) ∧ P (i / 60) = true ∧ i % 60 = p then sS r 39 else rI r k i, fun k i => if k = 8 ∧ P i = true then nw i else rJ r k i)
def inB (P : Nat → Bool) (y : Nat) : Nat → Bool := fun z => if z = y then true else P z
theorem tup_eq {r s : Rs} (h1 : sS r = sS s) (h2 : sO r = sO s) (h3 : ∀ k i, rI r k i = rI s k i) (h4 : ∀ k i, rJ r k i = rJ s k i) : r = s := by
  have e3 : rI r = rI s := funext fun k => funext fun i => h3 k i
  have e4 : rJ r = rJ s := funext fun k => funext fun i => h4 k i
  show (sS r, sO r, rI r, rJ r) = (sS s, sO s, rI s, rJ s)
  rw [h1, h2, e3, e4]
section R3
variable {r : Rs} {p : Nat} {nw : Nat → Int64} {P K Q : Nat → Bool}
theorem sl_0 : slS r p nw (fun _ => false) (fun _ => false) (fun _ => false) = r := by
  refine tup_eq rfl rfl (fun k i => ?_) (fun k i => ?_)
  · show (if k = 17 ∧ false = true then _ else if k = 18 ∧ false = true ∧ _ then _ else if _ ∧ false = true ∧ _ then _ else rI r k i) = _
    simp
  · show (if k = 8 ∧ false = true then _ else rJ r k i) = _
    simp
theorem sl_leaf (hp : p < 60) (y : Nat) : uI (uI (uJ (slS r p nw P K Q) 8 y (nw y)) 28 (60 * y + p) (sS r 39)) 29 (60 * y + p) (sS r 39) = slS r p nw (inB P y) K Q := by
  have key : ∀ i, (i = 60 * y + p) ↔ (i / 60 = y ∧ i % 60 = p) := fun i => by omega
  refine tup_eq rfl rfl (fun k i => ?_) (fun k i => ?_)
  · show (if k = 29 ∧ i = 60 * y + p then sS r 39 else if k = 28 ∧ i = 60 * y + p then sS r 39 else if k = 17 ∧ K i = true then sS r 39 else if k = 18 ∧ Q i = true ∧ rI r 3 i = 4 then 1 else if (k = 28 ∨ k = 29) ∧ P (i / 60) = true ∧ i % 60 = p then sS r 39 else rI r k i) = (if k = 17 ∧ K i = true then sS r 39 else if k = 18 ∧ Q i = true ∧ rI r 3 i = 4 then 1 else if (k = 28 ∨ k = 29) ∧ (if i / 60 = y then true else P (i / 60)) = true ∧ i % 60 = p then sS r 39 else rI r k i)
    by_cases hk : k = 28 ∨ k = 29
    · have n17 : ¬ (k = 17 ∧ K i = true) := fun q => by omega
      have n18 : ¬ (k = 18 ∧ Q i = true ∧ rI r 3 i = 4) := fun q => by omega
      rw [if_neg n17, if_neg n18, if_neg n17, if_neg n18]
      by_cases hi : i = 60 * y + p
      · have hi' := (key i).mp hi
        rw [if_pos (show (k = 28 ∨ k = 29) ∧ (if i / 60 = y then true else P (i / 60)) = true ∧ i % 60 = p from ⟨hk, by rw [if_pos hi'.1], hi'.2⟩)]
        rcases hk with e | e
        · rw [if_neg (fun q => by omega), if_pos ⟨e, hi⟩]
        · rw [if_pos ⟨e, hi⟩]
      · rw [if_neg (fun q => hi q.2), if_neg (fun q => hi q.2)]
        by_cases hy : i / 60 = y
        · have hm : i % 60 ≠ p := fun q => hi ((key i).mpr ⟨hy, q⟩)
          rw [if_neg (fun q => hm q.2.2), if_neg (fun q => hm q.2.2)]
        · rw [if_neg hy]
    · rw [if_neg (fun q => hk (Or.inr q.1)), if_neg (fun q => hk (Or.inl q.1))]
      by_cases a : k = 17 ∧ K i = true
      · rw [if_pos a, if_pos a]
      · rw [if_neg a, if_neg a]
        by_cases b : k = 18 ∧ Q i = true ∧ rI r 3 i = 4
        · rw [if_pos b, if_pos b]
        · rw [if_neg b, if_neg b, if_neg (fun q => hk q.1), if_neg (fun q => hk q.1)]
  · show (if k = 8 ∧ i = y then nw y else if k = 8 ∧ P i = true then nw i else rJ r k i) = (if k = 8 ∧ (if i = y then true else P i) = true then nw i else rJ r k i)
    by_cases hk : k = 8
    · by_cases hi : i = y
      · rw [if_pos ⟨hk, hi⟩, if_pos ⟨hk, by rw [if_pos hi]⟩, hi]
      · rw [if_neg (fun q => hi q.2), if_neg hi]
    · rw [if_neg (fun q => hk q.1), if_neg (fun q => hk q.1), if_neg (fun q => hk q.1)]
theorem sl_run (k0 : Nat) (hQ : K k0 = false) : uI (uI (slS r p nw P K K) 17 k0 (sS r 39)) 18 k0 (if rI r 3 k0 = 4 then 1 else rI r 18 k0) = slS r p nw P (inB K k0) (inB K k0) := by
  refine tup_eq rfl rfl (fun k i => ?_) (fun k i => rfl)
  show (if k = 18 ∧ i = k0 then (if rI r 3 k0 = 4 then 1 else rI r 18 k0) else if k = 17 ∧ i = k0 then sS r 39 else if k = 17 ∧ K i = true then sS r 39 else if k = 18 ∧ K i = true ∧ rI r 3 i = 4 then 1 else if (k = 28 ∨ k = 29) ∧ P (i / 60) = true ∧ i % 60 = p then sS r 39 else rI r k i) = (if k = 17 ∧ (if i = k0 then true else K i) = true then sS r 39 else if k = 18 ∧ (if i = k0 then true else K i) = true ∧ rI r 3 i = 4 then 1 else if (k = 28 ∨ k = 29) ∧ P (i / 60) = true ∧ i % 60 = p then sS r 39 else rI r k i)
  by_cases hi : i = k0
  · subst hi
    by_cases h18 : k = 18
    · subst h18
      by_cases h4 : rI r 3 i = 4
      · simp [h4]
      · simp [h4]
    · by_cases h17 : k = 17
      · simp [h17]
      · simp [h17, h18]
  · simp [hi]
end R3
