/-! ===== post: the class measures ===== -/
/-- the posts by number -/
def PF (w : Wd) (x : Nat) (r : Rs) (pA : Nat → Nat) : Prop := Lk (wR w 5 6) (wR w 10 6 x) ((pos r).map pA) ∧ ∀ q ∈ pos r, (wK w (pA q) = 6 ∧ wI w 5 0 (pA q) = nI q ∧ wR w 5 1 (pA q) = eA w x (ix r 31 q) ∧ wR w 5 2 (pA q) = eA w x (ix r 32 q) ∧ wJ w 5 3 (pA q) = rJ r 33 q) ∧ rI r 35 q ≠ -1 ∧ Ac w (wR w 5 4 (pA q)) (rI r 34 q) (rI r 35 q) ∧ Ac w (wR w 5 5 (pA q)) (rI r 36 q) (rI r 37 q)
theorem PF_of {w : Wd} {x : Nat} {r : Rs} {pl : List Nat} (h : CP w x r pl) : PF w x r (fun q => pl.getD (q - 1) 0) := by
  have e : (pos r).map (fun q => pl.getD (q - 1) 0) = pl := by
    apply List.ext_getElem
    · simp [pos, h.2.1]
    · intro i a b
      simp [pos, b]
  refine ⟨by rw [e]; exact h.1, fun q hq => ?_⟩
  have hq' : 1 ≤ q ∧ q < 1 + nP r := by simpa [pos] using hq
  have h2 := h.2.2.2 (q - 1) (by omega)
  rw [show q - 1 + 1 = q by omega] at h2
  exact ⟨⟨h2.1, h2.2.1, h2.2.2.1, h2.2.2.2.1, h2.2.2.2.2.1⟩, h2.2.2.2.2.2.1, h2.2.2.2.2.2.2.1, h2.2.2.2.2.2.2.2⟩
theorem pos_mem {r : Rs} {q : Nat} : q ∈ pos r ↔ 1 ≤ q ∧ q ≤ nP r := by
  unfold pos
  rw [List.mem_range'_1]; omega
theorem post_w {w : Wd} {x m : Nat} {r0 r : Rs} (hA : AT w x m r0 r) {q : Nat} (hq : q ∈ pos r) : (1 ≤ gA r q ∧ gA r q ≤ nE r ∧ paR r (gA r q) = 0) ∧ (1 ≤ gB r q ∧ gB r q ≤ nE r ∧ paR r (gB r q) = 0) ∧ wR w 2 1 (eA w x (ix r 31 q)) = wA w x (gA r q) ∧ wR w 2 1 (eA w x (ix r 32 q)) = wA w x (gB r q) ∧ wK w (eA w x (ix r 31 q)) = 3 ∧ wK w (eA w x (ix r 32 q)) = 3 := by
  have hq' := pos_mem.mp hq
  have hp := hA.2.2.2.2.2.2.2.2.1 q hq'.1 hq'.2
  have hE := hA.2.2.2.2.2.2.2.1
  have h4 := hA.2.2.2.1
  have a := h4.2.1 _ hp.2.1 hp.2.2.1
  have b := h4.2.1 _ hp.2.2.2.2.1 hp.2.2.2.2.2
  exact ⟨whole_of_e hE h4.2.2.1 hp.2.1 hp.2.2.1, whole_of_e hE h4.2.2.1 hp.2.2.2.2.1 hp.2.2.2.2.2, a.1.2.2.1, b.1.2.2.1, a.1.1, b.1.1⟩
theorem Ac_0 {w : Wd} {a : Nat} {d k : Int32} (hz : wK w 0 = 0) (h : Ac w a d k) : a = 0 ↔ k = -1 := by
  refine ⟨fun e => Classical.byContradiction fun q => ?_, h.1⟩
  have := (h.2 q).1
  rw [e, hz] at this; cases this
section P1
variable {X : Cx} {w0 : Wd} {x m : Nat} {r0 r : Rs} {pA : Nat → Nat}
/-- steps stand for f on the wholes that S names -/
def StF (w0 : Wd) (x : Nat) (S : Nat → Prop) (w : Wd) (f : Nat → Int32) : Prop := ∀ k, S k → wI w 9 16 (wA w0 x k) = f k
theorem c_rndLoop (hA : AT w0 x m r0 r) (hP : PF w0 x r pA) (S : Nat → Prop) (hS : ∀ k, S k → 1 ≤ k ∧ k ≤ nE r ∧ paR r k = 0) (hSq : ∀ q ∈ pos r, S (gA r q) ∧ S (gB r q)) (s : Nat) (hs : s + 1 < 2 ^ 31) (l2 : Nat) (A : Wd → Prop) : ∀ (l : List Nat), (∀ q ∈ l, q ∈ pos r) → ∀ (a : Nat) (w : Wd) (f : Nat → Int32) (gr : Int32), Sc w0 w → StF w0 x S w f → Lk (wR w0 5 6) a (l.map pA) →
    (∀ w' gr', Sc w0 w' → StF w0 x S w' (rnd r s l f) → (gr' = 0 → gr = 0 ∧ rnd r s l f = f) → jX1_measureSteps_51 X A l2 gr' (nI (s + 1 + 1)) w') → jX1_measureSteps_67 X A l2 gr (nI (s + 1)) a w := by
  have hz := hA.2.1.1
  intro l
  induction l with
  | nil =>
    intro _ a w f gr hc hf hk h
    refine tX1_measureSteps_67 X _ _ _ _ _ w ⟨fun _ => ?_, fun q => absurd hk q⟩
    rw [nI_1]
    exact h w gr hc hf (fun q => ⟨q, rfl⟩)
  | cons q l ih =>
    intro hl a w f gr hc hf hk h
    obtain ⟨rfl, hn, hk⟩ := Lk_cons hk
    have hq := hl q List.mem_cons_self
    have hp := hP.2 q hq
    obtain ⟨wa, wb, e1, e2, k1, k2⟩ := post_w hA hq
    have hSq' := hSq q hq
    have ra := hA.2.2.2.1.2.2.1 _ wa.1 wa.2.1 wa.2.2
    have rb := hA.2.2.2.1.2.2.1 _ wb.1 wb.2.1 wb.2.2
    have hl' : ∀ q' ∈ l, q' ∈ pos r := fun q' hq' => hl q' (List.mem_cons_of_mem _ hq')
    have skip : stp r s q f = f → jX1_measureSteps_67 X A l2 gr (nI (s + 1)) (wR w0 5 6 (pA q)) w := fun e => by
      refine ih hl' _ w f gr hc hf hk (fun w' gr' c1 c2 c3 => h w' gr' c1 ?_ ?_)
      · show StF w0 x S w' (rnd r s l (stp r s q f)); rw [e]; exact c2
      · show gr' = 0 → gr = 0 ∧ rnd r s l (stp r s q f) = f; rw [e]; exact c3
    refine tX1_measureSteps_67 X _ _ _ _ _ w ⟨fun z => absurd z hn, fun _ => ?_⟩
    rw [hc.1, hc.2.1, hp.1.2.2.1, hp.1.2.2.2.1, e1, e2, hf _ hSq'.1, hf _ hSq'.2, nI_pred]
    refine ⟨hp.1.1, k1, fun z => skip ?_, fun z => ⟨ra.1.1, fun z2 => skip ?_, fun z2 => ⟨k2, rb.1.1, fun z3 => skip ?_, fun z3 => ?_⟩⟩⟩
    · unfold stp; rw [if_neg (fun y => z ((Ac_0 hz hp.2.2.2).mpr y.1))]
    · unfold stp; rw [if_neg (fun y => z2 y.2.2)]
    · unfold stp; rw [if_neg (fun y => z3 y.2.1)]
    · rintro w10 rfl
      have e : stp r s q f = ups f (gA r q) (nI (s + 1)) := by unfold stp; rw [if_pos ⟨(Ac_0 hz hp.2.2.2).mp z, z3, z2⟩]
      show jX1_measureSteps_67 X A l2 1 (nI (s + 1)) (wR w 5 6 (pA q)) _
      rw [hc.2.1]
      refine ih hl' _ _ (stp r s q f) 1 (hc.sI 9 16 _ _ (Or.inl ⟨rfl, by omega⟩)) (fun k hk' => ?_) hk (fun w' gr' c1 c2 c3 => h w' gr' c1 c2 (fun y => absurd (c3 y).1 (by decide)))
      rw [e, (S_sI w 9 16 _ _).2.2.2.2.2.2.2]
      unfold ups
      by_cases hkk : k = gA r q
      · rw [if_pos ⟨rfl, rfl, by rw [hkk]⟩, if_pos hkk]
      · have hk3 := hS k hk'
        rw [if_neg (fun y => hkk (wA_inj hA.2.2.2.2.1 hA.2.2.2.1.2.1 hA.2.2.2.1.2.2.1 hk3.1 hk3.2.1 hk3.2.2 wa.1 wa.2.1 wa.2.2 y.2.2)), if_neg hkk]
        exact hf k hk'
theorem c_stepsLoop (hA : AT w0 x m r0 r) (hP : PF w0 x r pA) (S : Nat → Prop) (hS : ∀ k, S k → 1 ≤ k ∧ k ≤ nE r ∧ paR r k = 0) (hSq : ∀ q ∈ pos r, S (gA r q) ∧ S (gB r q)) (g : Nat) (A : Wd → Prop) (h : ∀ w', Sc w0 w' → StF w0 x S w' (Fs r g 100) → A w') : ∀ (n s : Nat) (w : Wd) (gr : Int32), n + s = 100 → Sc w0 w → StF w0 x S w (Fs r g s) → (gr = 0 → Fs r g 100 = Fs r g s) → jX1_measureSteps_51 X A (wR w0 10 6 x) gr (nI (s + 1)) w := by
  intro n
  induction n with
  | zero =>
    intro s w gr hn hc hf _
    have hs : s = 100 := by omega
    subst hs
    refine tX1_measureSteps_51 X _ _ _ _ w ⟨fun _ => h w hc hf, fun q => absurd (by decide) q⟩
  | succ n ih =>
    intro s w gr hn hc hf hg
    refine tX1_measureSteps_51 X _ _ _ _ w ⟨fun q => ?_, fun _ => ⟨fun q => ?_, fun _ => ?_⟩⟩
    · have := (nI_ltI (a := 100) (b := s + 1) (by omega) (by omega)).mp q; omega
    · exact h w hc (by rw [hg q]; exact hf)
    · refine c_rndLoop hA hP S hS hSq s (by omega) _ A (pos r) (fun _ z => z) _ w (Fs r g s) 0 hc hf hP.1 (fun w' gr' c1 c2 c3 => ih (s + 1) w' gr' (by omega) c1 c2 (fun y => ?_))
      have e : Fs r g (s + 1) = Fs r g s := (c3 y).2
      have := (Fs_fix e (100 - s) (by omega)).2
      rw [show s + (100 - s) = 100 by omega] at this
      rw [this, e]
theorem c_clearLoop (hA : AT w0 x m r0 r) (hP : PF w0 x r pA) (g st l2 : Nat) (A : Wd → Prop) : ∀ (l : List Nat), (∀ q ∈ l, q ∈ pos r) → ∀ (a : Nat) (w : Wd), Sc w0 w → Lk (wR w0 5 6) a (l.map pA) →
    (∀ w', Sc w0 w' → (∀ q ∈ l, wI w' 9 16 (wA w0 x (gA r q)) = -1 ∧ wI w' 9 16 (wA w0 x (gB r q)) = -1) → (∀ b, wI w 9 16 b = -1 → wI w' 9 16 b = -1) → jX1_measureSteps_2 X A g st l2 0 w') → jX1_measureSteps_2 X A g st l2 a w := by
  intro l
  induction l with
  | nil =>
    intro _ a w hc hk h
    have : a = 0 := hk
    subst this
    exact h w hc (fun q hq => (by cases hq)) (fun _ z => z)
  | cons q l ih =>
    intro hl a w hc hk h
    obtain ⟨rfl, hn, hk⟩ := Lk_cons hk
    have hq := hl q List.mem_cons_self
    have hp := hP.2 q hq
    obtain ⟨wa, wb, e1, e2, k1, k2⟩ := post_w hA hq
    have ra := hA.2.2.2.1.2.2.1 _ wa.1 wa.2.1 wa.2.2
    have rb := hA.2.2.2.1.2.2.1 _ wb.1 wb.2.1 wb.2.2
    refine tX1_measureSteps_2 X _ _ _ _ _ w ⟨fun z => absurd z hn, fun _ => ?_⟩
    rw [hc.1, hc.2.1, hp.1.2.2.1, e1]
    refine ⟨hp.1.1, k1, ra.1.1, ?_⟩
    intro w9 hw9
    have hc9 : Sc w0 w9 := by rw [hw9]; exact hc.sI 9 16 _ _ (Or.inl ⟨rfl, by omega⟩)
    rw [hc9.1, hc9.2.1, hp.1.2.2.2.1, e2]
    refine ⟨k2, rb.1.1, ?_⟩
    intro w13 hw13
    have hc13 : Sc w0 w13 := by rw [hw13]; exact hc9.sI 9 16 _ _ (Or.inl ⟨rfl, by omega⟩)
    rw [hc13.2.1]
    have up : ∀ b, wI w13 9 16 b = if b = wA w0 x (gB r q) then -1 else if b = wA w0 x (gA r q) then -1 else wI w 9 16 b := fun b => by
      rw [hw13, hw9]; simp [S_sI]
    refine ih (fun q' hq' => hl q' (List.mem_cons_of_mem _ hq')) _ w13 hc13 hk (fun w' c1 c2 c3 => h w' c1 (fun q' hq' => ?_) (fun b hb => c3 b ?_))
    · rcases List.mem_cons.mp hq' with z | z
      · subst z
        refine ⟨c3 _ ?_, c3 _ ?_⟩
        · rw [up]; split
          · rfl
          · rw [if_pos rfl]
        · rw [up, if_pos rfl]
      · exact c2 q' z
    · rw [up]; split
      · rfl
      · split
        · rfl
        · exact hb
theorem c_measure (hA : AT w0 x m r0 r) (hP : PF w0 x r pA) (g st : Nat) (hg : 1 ≤ g ∧ g ≤ nE r ∧ paR r g = 0) (ht : 1 ≤ st ∧ st ≤ nE r ∧ paR r st = 0) (A : Wd → Prop) (h : ∀ w', Sc w0 w' → StF w0 x (fun k => k = g ∨ k = st ∨ ∃ q ∈ pos r, k = gA r q ∨ k = gB r q) w' (Fs r g 100) → A w') : Ct X bX1_measureSteps mX1_measureSteps [vR (wA w0 x g), vR (wA w0 x st), vR (wR w0 10 6 x)] w0 (qV A) := by
  have hCW := hA.2.2.2.1.2.2.1
  have inj : ∀ {a b}, (1 ≤ a ∧ a ≤ nE r ∧ paR r a = 0) → (1 ≤ b ∧ b ≤ nE r ∧ paR r b = 0) → wA w0 x a = wA w0 x b → a = b := fun p q e => wA_inj hA.2.2.2.2.1 hA.2.2.2.1.2.1 hCW p.1 p.2.1 p.2.2 q.1 q.2.1 q.2.2 e
  have hS : ∀ k, (k = g ∨ k = st ∨ ∃ q ∈ pos r, k = gA r q ∨ k = gB r q) → 1 ≤ k ∧ k ≤ nE r ∧ paR r k = 0 := fun k hk => by
    rcases hk with e | e | ⟨q, hq, e | e⟩
    · rw [e]; exact hg
    · rw [e]; exact ht
    · rw [e]; exact (post_w hA hq).1
    · rw [e]; exact (post_w hA hq).2.1
  refine oX1_measureSteps X _ _ _ _ w0 ?_
  refine c_clearLoop hA hP _ _ _ A (pos r) (fun _ z => z) _ w0 (Sc.rf _) hP.1 (fun w' c1 c2 c3 => ?_)
  refine tX1_measureSteps_2 X _ _ _ _ _ w' ⟨fun _ => ?_, fun z => absurd rfl z⟩
  rw [c1.1]
  refine ⟨(hCW st ht.1 ht.2.1 ht.2.2).1.1, ?_⟩
  rintro w3 rfl
  refine ⟨by show wK w' _ = 10; rw [c1.1]; exact (hCW g hg.1 hg.2.1 hg.2.2).1.1, ?_⟩
  rintro w5 rfl
  refine c_stepsLoop hA hP _ hS (fun q hq => ⟨Or.inr (Or.inr ⟨q, hq, Or.inl rfl⟩), Or.inr (Or.inr ⟨q, hq, Or.inr rfl⟩)⟩) g A h 100 0 _ 1 rfl ((c1.sI 9 16 _ _ (Or.inl ⟨rfl, by omega⟩)).sI 9 16 _ _ (Or.inl ⟨rfl, by omega⟩)) (fun k hk => ?_) (fun z => absurd z (by decide))
  have hk3 := hS k hk
  have e : wI (sI (sI w' 9 16 (wA w0 x st) (-1)) 9 16 (wA w0 x g) 0) 9 16 (wA w0 x k) = if wA w0 x k = wA w0 x g then 0 else if wA w0 x k = wA w0 x st then -1 else wI w' 9 16 (wA w0 x k) := by simp [S_sI]
  rw [e]
  show _ = if k = g then (0 : Int32) else -1
  by_cases h1 : k = g
  · rw [if_pos (by rw [h1]), if_pos h1]
  · rw [if_neg (fun z => h1 (inj hk3 hg z)), if_neg h1]
    by_cases h2 : k = st
    · rw [if_pos (by rw [h2])]
    · rw [if_neg (fun z => h2 (inj hk3 ht z))]
      rcases hk with z | z | ⟨q, hq, z | z⟩
      · exact absurd z h1
      · exact absurd z h2
      · rw [z]; exact (c2 q hq).1
      · rw [z]; exact (c2 q hq).2
end P1
