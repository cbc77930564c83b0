/-! ===== post: by how few posts a whole gives way, and the way itself ===== -/
def gA (r : Rs) (q : Nat) : Nat := whR r (ix r 31 q)
def gB (r : Rs) (q : Nat) : Nat := whR r (ix r 32 q)
def ups (f : Nat → Int32) (k : Nat) (v : Int32) : Nat → Int32 := fun j => if j = k then v else f j
def stp (r : Rs) (s : Nat) (q : Nat) (f : Nat → Int32) : Nat → Int32 := if rI r 37 q = -1 ∧ f (gB r q) = nI s ∧ f (gA r q) = -1 then ups f (gA r q) (nI (s + 1)) else f
def rnd (r : Rs) (s : Nat) : List Nat → (Nat → Int32) → (Nat → Int32)
  | [], f => f
  | q :: t, f => rnd r s t (stp r s q f)
def pos (r : Rs) : List Nat := List.range' 1 (nP r)
/-- behind s rounds, g the goal -/
def Fs (r : Rs) (g : Nat) : Nat → Nat → Int32
  | 0 => fun k => if k = g then 0 else -1
  | s + 1 => rnd r s (pos r) (Fs r g s)
theorem nI_m1 {s : Nat} (h : s < 2 ^ 31) : nI s ≠ -1 := by
  intro e
  have h1 := congrArg Int32.toNatClampNeg e
  rw [nI_clamp h, show (-1 : Int32).toNatClampNeg = 0 by decide] at h1
  rw [h1] at e
  exact absurd e (by decide)
/-- what is said stays said; what is newly said is s + 1, and has a post -/
theorem rnd_ok (r : Rs) (s : Nat) (hs : s + 1 < 2 ^ 31) : ∀ (l : List Nat) (f : Nat → Int32) (k : Nat), (f k ≠ -1 → rnd r s l f k = f k) ∧ (f k = -1 → rnd r s l f k = -1 ∨ (rnd r s l f k = nI (s + 1) ∧ ∃ q ∈ l, rI r 37 q = -1 ∧ gA r q = k ∧ f (gB r q) = nI s)) := by
  intro l
  induction l with
  | nil => intro f k; exact ⟨fun _ => rfl, fun h => Or.inl h⟩
  | cons q t ih =>
    intro f k
    show (f k ≠ -1 → rnd r s t (stp r s q f) k = f k) ∧ _
    have h0 := ih (stp r s q f) k
    have hm := nI_m1 hs
    have hm0 : nI s ≠ -1 := nI_m1 (by omega)
    have h37 : ∀ j, f j ≠ -1 → stp r s q f j = f j := fun j hj => by
      unfold stp ups
      split
      · rename_i h
        dsimp only
        split
        · rename_i e; rw [e] at hj; exact absurd h.2.2 hj
        · rfl
      · rfl
    have back : ∀ j, stp r s q f j = nI s → f j = nI s := fun j hj => by
      by_cases h : f j = -1
      · exfalso
        unfold stp ups at hj
        split at hj
        · dsimp only at hj
          split at hj
          · have h5 := (nI_eq hs (by omega)).mp hj
            omega
          · rw [h] at hj; exact hm0 hj.symm
        · rw [h] at hj; exact hm0 hj.symm
      · rw [h37 j h] at hj; exact hj
    refine ⟨fun h => ?_, fun h => ?_⟩
    · have h2 := h37 k h
      rw [h0.1 (by rw [h2]; exact h)]; exact h2
    · by_cases h2 : stp r s q f k = -1
      · rcases h0.2 h2 with h3 | ⟨h3, q', h4, h5, h6, h7⟩
        · exact Or.inl h3
        · exact Or.inr ⟨h3, q', List.mem_cons_of_mem _ h4, h5, h6, back _ h7⟩
      · right
        have h3 := h0.1 h2
        unfold stp at h2 h3
        by_cases hc : rI r 37 q = -1 ∧ f (gB r q) = nI s ∧ f (gA r q) = -1
        · rw [if_pos hc] at h2 h3
          by_cases hk : k = gA r q
          · refine ⟨?_, q, List.mem_cons_self, hc.1, hk.symm, hc.2.1⟩
            show rnd r s t (stp r s q f) k = _
            unfold stp
            rw [if_pos hc, h3]
            unfold ups; rw [if_pos hk]
          · unfold ups at h2; rw [if_neg hk] at h2; exact absurd h h2
        · rw [if_neg hc] at h2; exact absurd h h2
/-- the values of F s: -1, or j at most s -/
theorem Fs_val (r : Rs) (g : Nat) : ∀ s, s < 2 ^ 31 → ∀ k, Fs r g s k = -1 ∨ ∃ j, j ≤ s ∧ Fs r g s k = nI j ∧ (j = 0 → k = g) ∧ (∀ i, j = i + 1 → ∃ q ∈ pos r, rI r 37 q = -1 ∧ gA r q = k ∧ Fs r g s (gB r q) = nI i) := by
  intro s
  induction s with
  | zero =>
    intro _ k
    by_cases h : k = g
    · exact Or.inr ⟨0, Nat.le_refl _, by show (if k = g then (0 : Int32) else -1) = nI 0; rw [if_pos h]; rfl, fun _ => h, fun i hi => by omega⟩
    · exact Or.inl (by show (if k = g then (0 : Int32) else -1) = -1; rw [if_neg h])
  | succ s ih =>
    intro hs k
    have ih := ih (by omega)
    have h0 := rnd_ok r s hs (pos r) (Fs r g s)
    have keep : ∀ k i, i ≤ s → Fs r g s k = nI i → Fs r g (s + 1) k = nI i := fun k i hi h => by
      show rnd r s (pos r) (Fs r g s) k = _
      rw [(h0 k).1 (by rw [h]; exact nI_m1 (by omega)), h]
    rcases ih k with h | ⟨j, hj, h, h1, h2⟩
    · rcases (h0 k).2 h with h3 | ⟨h3, q, q1, q2, q3, q4⟩
      · exact Or.inl h3
      · refine Or.inr ⟨s + 1, Nat.le_refl _, h3, fun z => by omega, fun i hi => ⟨q, q1, q2, q3, keep _ i (by omega) ?_⟩⟩
        have : i = s := by omega
        rw [this]; exact q4
    · refine Or.inr ⟨j, by omega, keep k j hj h, h1, fun i hi => ?_⟩
      obtain ⟨q, q1, q2, q3, q4⟩ := h2 i hi
      exact ⟨q, q1, q2, q3, keep _ i (by omega) q4⟩
theorem rnd_id (r : Rs) (s : Nat) (f : Nat → Int32) : ∀ l : List Nat, (∀ q ∈ l, ¬ (rI r 37 q = -1 ∧ f (gB r q) = nI s ∧ f (gA r q) = -1)) → rnd r s l f = f := by
  intro l
  induction l with
  | nil => intro _; rfl
  | cons q t ih =>
    intro h
    show rnd r s t (stp r s q f) = f
    have : stp r s q f = f := by unfold stp; rw [if_neg (h q List.mem_cons_self)]
    rw [this]
    exact ih (fun q' hq' => h q' (List.mem_cons_of_mem _ hq'))
/-- a round that says nothing new is the last -/
theorem Fs_stop {r : Rs} {g s : Nat} (hs : s + 2 < 2 ^ 31) (h : Fs r g (s + 1) = Fs r g s) : Fs r g (s + 2) = Fs r g (s + 1) := by
  show rnd r (s + 1) (pos r) (Fs r g (s + 1)) = _
  refine rnd_id r _ _ _ (fun q _ hc => ?_)
  have h1 := hc.2.1
  rw [h] at h1
  rcases Fs_val r g s (by omega) (gB r q) with h2 | ⟨j, hj, h2, -⟩
  · rw [h2] at h1; exact nI_m1 (s := s + 1) (by omega) h1.symm
  · rw [h2] at h1
    have h5 := (nI_eq (by omega) (by omega)).mp h1
    omega
theorem Fs_fix {r : Rs} {g s : Nat} (h : Fs r g (s + 1) = Fs r g s) : ∀ j, s + j + 2 < 2 ^ 31 → Fs r g (s + j + 1) = Fs r g (s + j) ∧ Fs r g (s + j) = Fs r g s := by
  intro j
  induction j with
  | zero => intro _; exact ⟨h, rfl⟩
  | succ j ih =>
    intro hj
    have h0 := ih (by omega)
    have h1 := Fs_stop (r := r) (g := g) (s := s + j) (by omega) h0.1
    exact ⟨h1, h0.1.trans h0.2⟩
/-- how many of a list are not said yet -/
def unS (f : Nat → Int32) (l : List Nat) : Nat := l.countP (fun k => decide (f k = -1))
theorem unS_le {f h : Nat → Int32} (hf : ∀ k, f k ≠ -1 → h k ≠ -1) : ∀ l : List Nat, unS h l ≤ unS f l ∧ ((∃ k ∈ l, f k = -1 ∧ h k ≠ -1) → unS h l < unS f l) := by
  intro l
  induction l with
  | nil => exact ⟨Nat.le_refl _, fun ⟨k, hk, _⟩ => by cases hk⟩
  | cons y t ih =>
    unfold unS at *
    rw [List.countP_cons, List.countP_cons]
    have hy := hf y
    by_cases h1 : f y = -1
    · by_cases h2 : h y = -1
      · simp only [h1, h2, decide_true, if_true]
        refine ⟨by omega, fun ⟨k, hk, a, b⟩ => ?_⟩
        rcases List.mem_cons.mp hk with e | e
        · rw [e] at b; exact absurd h2 b
        · have := ih.2 ⟨k, e, a, b⟩; omega
      · simp only [h1, decide_true, if_true, decide_false, h2]
        have := ih.1
        exact ⟨by simp; omega, fun _ => by simp; omega⟩
    · have h2 := hy h1
      simp only [h1, h2, decide_false]
      refine ⟨by simpa using ih.1, fun ⟨k, hk, a, b⟩ => ?_⟩
      rcases List.mem_cons.mp hk with e | e
      · rw [e] at a; exact absurd a h1
      · simpa using ih.2 ⟨k, e, a, b⟩
theorem Fs_cnt {r : Rs} {g : Nat} (l : List Nat) (hl : ∀ q ∈ pos r, gA r q ∈ l) (s : Nat) (hs : s + 1 < 2 ^ 31) : Fs r g (s + 1) = Fs r g s ∨ unS (Fs r g (s + 1)) l < unS (Fs r g s) l := by
  by_cases h : Fs r g (s + 1) = Fs r g s
  · exact Or.inl h
  · right
    have h0 := rnd_ok r s hs (pos r) (Fs r g s)
    have hex : ∃ k, Fs r g (s + 1) k ≠ Fs r g s k := Classical.byContradiction fun q => h (funext fun k => Classical.byContradiction fun z => q ⟨k, z⟩)
    obtain ⟨k, hk⟩ := hex
    have h1 : Fs r g s k = -1 := Classical.byContradiction fun z => hk ((h0 k).1 z)
    have h2 := (h0 k).2 h1
    rcases h2 with h2 | ⟨h2, q, q1, q2, q3, q4⟩
    · exact absurd (h2.trans h1.symm) hk
    · refine (unS_le (f := Fs r g s) (h := Fs r g (s + 1)) (fun j hj => ?_) l).2 ⟨k, by rw [← q3]; exact hl q q1, h1, ?_⟩
      · show rnd r s (pos r) (Fs r g s) j ≠ -1
        rw [(h0 j).1 hj]; exact hj
      · show rnd r s (pos r) (Fs r g s) k ≠ -1
        rw [h2]; exact nI_m1 hs
/-- behind as many rounds as there are who give way, nothing new is said -/
theorem Fs_end {r : Rs} {g : Nat} (l : List Nat) (hl : ∀ q ∈ pos r, gA r q ∈ l) (hL : l.length < 2 ^ 29) : ∀ j, j < 2 ^ 29 → Fs r g (l.length + j) = Fs r g l.length := by
  have key : ∀ s, s ≤ l.length → (∃ i, i < s ∧ Fs r g (i + 1) = Fs r g i) ∨ unS (Fs r g s) l + s ≤ l.length := by
    intro s
    induction s with
    | zero => intro _; right; show unS _ l + 0 ≤ _; exact List.countP_le_length
    | succ s ih =>
      intro hs
      rcases ih (by omega) with ⟨i, hi, h⟩ | h
      · exact Or.inl ⟨i, by omega, h⟩
      · rcases Fs_cnt (g := g) l hl s (by omega) with h2 | h2
        · exact Or.inl ⟨s, by omega, h2⟩
        · right; omega
  intro j hj
  rcases key l.length (Nat.le_refl _) with ⟨i, hi, h⟩ | h
  · have a := (Fs_fix h (l.length + j - i) (by omega)).2
    have b := (Fs_fix h (l.length - i) (by omega)).2
    rw [show i + (l.length + j - i) = l.length + j by omega] at a
    rw [show i + (l.length - i) = l.length by omega] at b
    rw [a, b]
  · have h0 : unS (Fs r g l.length) l = 0 := by omega
    have h1 : Fs r g (l.length + 1) = Fs r g l.length := by
      show rnd r l.length (pos r) (Fs r g l.length) = _
      refine rnd_id r _ _ _ (fun q hq hc => ?_)
      have := List.countP_eq_zero.mp h0 (gA r q) (hl q hq)
      simp [hc.2.2] at this
    exact (Fs_fix h1 j (by omega)).2
