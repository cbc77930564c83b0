/-! ===== a making changes nothing that stands ===== -/
def Ag (w w' : Wd) : Prop := ∀ a, wK w a ≠ 0 → wK w' a = wK w a ∧ wL w' a = wL w a ∧ (∀ c k, wI w' c k a = wI w c k a) ∧ (∀ c k, wJ w' c k a = wJ w c k a) ∧ (∀ c k, wR w' c k a = wR w c k a) ∧ (∀ i, xI w' a i = xI w a i) ∧ (∀ i, xJ w' a i = xJ w a i) ∧ (∀ i, xR w' a i = xR w a i)
theorem Ag.nO {w : Wd} (ci q : Nat) (hq : wK w q = 0) : Ag w (nO w ci q) := by
  intro a ha
  have hne : a ≠ q := fun e => ha (by rw [e]; exact hq)
  have h := eqAt_nO (w := w) (ci := ci) hne
  exact ⟨h.1, h.2.2.2.2.1, fun c k => h.2.1 c k, fun c k => h.2.2.1 c k, fun c k => h.2.2.2.1 c k, fun i => rfl, fun i => rfl, fun i => rfl⟩
theorem Ag.nA {w : Wd} (t q n : Nat) (hq : wK w q = 0) : Ag w (nA w t q n) := by
  intro a ha
  have hne : a ≠ q := fun e => ha (by rw [e]; exact hq)
  have h := eqAt_nA (w := w) (t := t) (n := n) hne
  exact ⟨h.1, h.2.2.2.2.1, fun c k => rfl, fun c k => rfl, fun c k => rfl, fun i => congrFun h.2.2.2.2.2.1 i, fun i => congrFun h.2.2.2.2.2.2.1 i, fun i => congrFun h.2.2.2.2.2.2.2 i⟩
theorem Ag.tr {a b c : Wd} (h1 : Ag a b) (h2 : Ag b c) : Ag a c := by
  intro y hy
  obtain ⟨a1, a2, a3, a4, a5, a6, a7, a8⟩ := h1 y hy
  obtain ⟨b1, b2, b3, b4, b5, b6, b7, b8⟩ := h2 y (by rw [a1]; exact hy)
  exact ⟨b1.trans a1, b2.trans a2, fun c k => (b3 c k).trans (a3 c k), fun c k => (b4 c k).trans (a4 c k), fun c k => (b5 c k).trans (a5 c k), fun i => (b6 i).trans (a6 i), fun i => (b7 i).trans (a7 i), fun i => (b8 i).trans (a8 i)⟩
/-- fields of what was not there may change -/
theorem Ag.sI {w w' : Wd} (h : Ag w w') (c k q : Nat) (v : Int32) (hq : wK w q = 0) : Ag w (sI w' c k q v) := by
  intro a ha
  have hne : a ≠ q := fun e => ha (by rw [e]; exact hq)
  obtain ⟨a1, a2, a3, a4, a5, a6, a7, a8⟩ := h a ha
  exact ⟨a1, a2, fun c' k' => by rw [(S_sI w' c k q v).2.2.2.2.2.2.2, if_neg (fun z => hne z.2.2)]; exact a3 c' k', a4, a5, a6, a7, a8⟩
theorem Ag.sJ {w w' : Wd} (h : Ag w w') (c k q : Nat) (v : Int64) (hq : wK w q = 0) : Ag w (sJ w' c k q v) := by
  intro a ha
  have hne : a ≠ q := fun e => ha (by rw [e]; exact hq)
  obtain ⟨a1, a2, a3, a4, a5, a6, a7, a8⟩ := h a ha
  exact ⟨a1, a2, a3, fun c' k' => by rw [(S_sJ w' c k q v).2.2.2.2.2.2.2, if_neg (fun z => hne z.2.2)]; exact a4 c' k', a5, a6, a7, a8⟩
theorem Ag.sR {w w' : Wd} (h : Ag w w') (c k q : Nat) (v : Nat) (hq : wK w q = 0) : Ag w (sR w' c k q v) := by
  intro a ha
  have hne : a ≠ q := fun e => ha (by rw [e]; exact hq)
  obtain ⟨a1, a2, a3, a4, a5, a6, a7, a8⟩ := h a ha
  exact ⟨a1, a2, a3, a4, fun c' k' => by rw [(S_sR w' c k q v).2.2.2.2.2.2.2, if_neg (fun z => hne z.2.2)]; exact a5 c' k', a6, a7, a8⟩
theorem Lk_congr {nx nx' : Nat → Nat} : ∀ (l : List Nat) (a : Nat), (∀ b ∈ l, nx' b = nx b) → Lk nx a l → Lk nx' a l := by
  intro l
  induction l with
  | nil => intro a _ h; exact h
  | cons b t ih =>
    intro a hb h
    obtain ⟨h1, h2, h3⟩ := Lk_cons h
    refine ⟨h1, h2, ?_⟩
    rw [hb b List.mem_cons_self]
    exact ih _ (fun c hc => hb c (List.mem_cons_of_mem _ hc)) h3
theorem insW_mem {r : Rs} {e y : Nat} {l : List Nat} (h : y ∈ insW r e l) : y = e ∨ y ∈ l := by
  unfold insW at h
  rcases List.mem_append.mp h with h | h
  · exact Or.inr ((List.takeWhile_sublist _).subset h)
  · rcases List.mem_cons.mp h with h | h
    · exact Or.inl h
    · exact Or.inr ((List.dropWhile_sublist _).subset h)
theorem chN_mem {r : Rs} {f y : Nat} : ∀ n, y ∈ chN r f n → 1 ≤ y ∧ y ≤ n ∧ paR r y = 0 ∧ foR r y = f := by
  intro n
  induction n with
  | zero => intro h; cases h
  | succ n ih =>
    intro h
    unfold chN at h
    split at h
    · rename_i hc
      rcases insW_mem h with h | h
      · subst h; exact ⟨by omega, Nat.le_refl _, hc.1, hc.2⟩
      · obtain ⟨a, b, c⟩ := ih h; exact ⟨a, by omega, c⟩
    · obtain ⟨a, b, c⟩ := ih h; exact ⟨a, by omega, c⟩
theorem Ac_ag {w w' : Wd} (hg : Ag w w') {a : Nat} {d k : Int32} (h : Ac w a d k) : Ac w' a d k := by
  refine ⟨h.1, fun hk => ?_⟩
  obtain ⟨h1, h2, h3⟩ := h.2 hk
  obtain ⟨g1, -, g3, -⟩ := hg a (by rw [h1]; decide)
  exact ⟨g1.trans h1, (g3 0 0).trans h2, (g3 0 1).trans h3⟩
theorem AG_all {w w' : Wd} {x m : Nat} {r r' : Rs} (hg : Ag w w') (hz' : wK w' 0 = 0) (h : AT w x m r r') : AT w' x m r r' := by
  obtain ⟨hM, hD, hC, h4, hI⟩ := h
  obtain ⟨hc, hf, hb, hE, hp, hd⟩ := hI
  have gx := hg x (by rw [hC.1.1]; decide)
  have ga := hg (wR w 10 0 x) (by rw [hC.1.2.1]; decide)
  have gb := hg (wR w 10 1 x) (by rw [hC.1.2.2.2.1]; decide)
  have gc := hg (wR w 10 2 x) (by rw [hC.1.2.2.2.2.2.1]; decide)
  have gn := hg (wR w 10 8 x) (by rw [hC.1.2.2.2.2.2.2]; decide)
  have gw := hg (ca w x) (by show wK w (wR w 1 0 (wR w 10 2 x)) ≠ 0; rw [hC.2.2.1]; decide)
  have gm := hg m (by rw [hM.1.1]; decide)
  have fe : fA w' x = fA w x := by funext f; unfold fA; rw [gx.2.2.2.2.1, ga.2.2.2.2.2.2.2]
  have ee : eA w' x = eA w x := by funext f; unfold eA; rw [gx.2.2.2.2.1, gb.2.2.2.2.2.2.2]
  obtain ⟨h1, h2, h3, ⟨pl, h5⟩, h6⟩ := h4
  have gE : ∀ e, 1 ≤ e → e ≤ nE r' → _ := fun e a b => hg (eA w x e) (by rw [(h2 e a b).1.1]; decide)
  have we : ∀ k, 1 ≤ k → k ≤ nE r' → wA w' x k = wA w x k := fun k a b => by unfold wA; rw [ee, (gE k a b).2.2.2.2.1]
  have gW : ∀ k, 1 ≤ k → k ≤ nE r' → paR r' k = 0 → _ := fun k a b c => hg (wA w x k) (by rw [(h3 k a b c).1.1]; decide)
  have mapW : ∀ l : List Nat, (∀ y ∈ l, 1 ≤ y ∧ y ≤ nE r') → l.map (wA w' x) = l.map (wA w x) := fun l hl => List.map_congr_left (fun y hy => we y (hl y hy).1 (hl y hy).2)
  refine ⟨MO_mv (fun a ha => ⟨(hg a ha).1, (hg a ha).2.1⟩) (fun k => gm.2.2.2.2.1 11 k) (fun k => gm.2.2.1 11 k) (gm.2.2.2.1 11 64) (fun k i k1 k2 => ?_) hM, ⟨hz', fun k k1 k2 => ?_, hD.2.2⟩, ?_, ⟨?_, ?_, ?_, ⟨pl, ?_⟩, ?_⟩, hc, hf, hb, hE, hp, hd⟩
  · have := hg (wR w 11 k m) (by rw [(hM.1.2.1 k k1 k2).1]; exact k2)
    exact ⟨this.2.2.2.2.2.1 i, this.2.2.2.2.2.2.1 i⟩
  · have h9 := hD.2.1 k k1 k2
    unfold ca at *
    rw [gm.2.2.2.2.1, gx.2.2.2.2.1, gc.2.2.2.2.1]
    exact h9
  · unfold CS
    rw [gx.2.2.2.2.1 10 0, gx.2.2.2.2.1 10 1, gx.2.2.2.2.1 10 2, gx.2.2.2.2.1 10 8, gx.1, ga.1, ga.2.1, gb.1, gb.2.1, gc.1, gn.1, gx.2.2.1, gx.2.2.1, gx.2.2.1, gn.2.2.1, gn.2.2.1, gx.2.2.1, gx.2.2.1, gx.2.2.2.1, gx.2.2.1, gx.2.2.1, gc.2.2.2.2.1]
    rw [gc.2.2.1, gc.2.2.1]
    have gw1 := gw.1
    have gw2 := gw.2.1
    have gw3 := gw.2.2.2.2.2.1
    unfold ca at gw1 gw2 gw3
    rw [gw1, gw2]
    simp only [gw3]
    exact hC
  · intro f hf'
    have hq := h1 f hf'
    have g := hg (fA w x f) (by rw [hq.1]; decide)
    have cm : ∀ y ∈ chF r' f, 1 ≤ y ∧ y ≤ nE r' ∧ paR r' y = 0 := fun y hy => by have := chN_mem _ hy; exact ⟨this.1, this.2.1, this.2.2.1⟩
    rw [fe, g.1, g.2.2.1, g.2.2.1, g.2.2.2.1, g.2.2.2.2.1, g.2.2.2.2.1, mapW _ (fun y hy => ⟨(cm y hy).1, (cm y hy).2.1⟩), mapW _ (fun y hy => by have := cm y (List.mem_reverse.mp hy); exact ⟨this.1, this.2.1⟩)]
    refine ⟨hq.1, hq.2.1, hq.2.2.1, hq.2.2.2.1, Lk_congr _ _ (fun b hb => ?_) hq.2.2.2.2.1, Lk_congr _ _ (fun b hb => ?_) hq.2.2.2.2.2⟩
    · obtain ⟨y, hy, rfl⟩ := List.mem_map.mp hb
      obtain ⟨y1, y2, y3⟩ := cm y hy
      exact (gW y y1 y2 y3).2.2.2.2.1 9 12
    · obtain ⟨y, hy, rfl⟩ := List.mem_map.mp hb
      obtain ⟨y1, y2, y3⟩ := cm y (List.mem_reverse.mp hy)
      exact (gW y y1 y2 y3).2.2.2.2.1 9 11
  · intro e e1 e2
    have hq := h2 e e1 e2
    have g := gE e e1 e2
    have hk2 := (hE e e1 e2).2.1
    rw [ee, we _ hk2.1 (Nat.le_trans hk2.2.1 e2), g.1, g.2.2.1, g.2.2.1, g.2.2.1, g.2.2.2.1, g.2.2.2.1, g.2.2.2.1, g.2.2.2.2.1, g.2.2.2.2.1]
    refine ⟨hq.1, hq.2.1, ?_⟩
    unfold CL
    rw [g.2.2.2.2.1]
    rcases hq.2.2 with h7 | ⟨h7, h8, h9, h10⟩
    · exact Or.inl h7
    · have gr := hg (wR w 2 6 (eA w x e)) (by rw [h8]; decide)
      refine Or.inr ⟨h7, gr.1.trans h8, gr.2.1.trans h9, fun p hp' => ⟨fun hs => ?_, (h10 p hp').2⟩⟩
      rw [gr.2.2.2.2.2.2.2]
      exact Ac_ag hg ((h10 p hp').1 hs)
  · intro k k1 k2 k3
    have hq := h3 k k1 k2 k3
    have g := gW k k1 k2 k3
    have gt := hg (wR w 9 3 (wA w x k)) (by rw [hq.2.2.1.1]; decide)
    have hI := hE k k1 k2
    have lm : ∀ y ∈ lvs (fiR r') k, 1 ≤ y ∧ y ≤ nE r' := fun y hy => by have := lvs_mem (HT_of hc hE) k k1 k2 y hy; omega
    rw [we k k1 k2, fe, ee, g.1]
    simp only [g.2.2.1, g.2.2.2.1, g.2.2.2.2.1, gt.1, gt.2.2.1, gt.2.2.2.1, gt.2.2.2.2.1]
    refine ⟨hq.1, ⟨hq.2.1.1, Ac_ag hg hq.2.1.2.1, Ac_ag hg hq.2.1.2.2⟩, ⟨hq.2.2.1.1, hq.2.2.1.2.1, hq.2.2.1.2.2.1, hq.2.2.1.2.2.2.1, hq.2.2.1.2.2.2.2.1, hq.2.2.1.2.2.2.2.2.1, Ac_ag hg hq.2.2.1.2.2.2.2.2.2.1, hq.2.2.1.2.2.2.2.2.2.2⟩, ⟨?_, fun h => ⟨(hq.2.2.2.1.2 h).1, fun h0 => ⟨((hq.2.2.2.1.2 h).2 h0).1, Ac_ag hg ((hq.2.2.2.1.2 h).2 h0).2⟩⟩⟩, Lk_congr _ _ (fun b hb => ?_) hq.2.2.2.2.1, Lk_congr _ _ (fun b hb => ?_) hq.2.2.2.2.2⟩
    · by_cases h0 : ix r' 24 k + ix r' 25 k = 0
      · have := hq.2.2.2.1.1
        rw [if_pos h0] at this ⊢
        exact this
      · have := hq.2.2.2.1.1
        rw [if_neg h0] at this ⊢
        rw [this]
        have h9 := hI.2.2.2.2
        exact (we _ (by omega) (by omega)).symm
    · obtain ⟨y, hy, rfl⟩ := List.mem_map.mp hb
      exact (gE y (lm y hy).1 (lm y hy).2).2.2.2.2.1 2 8
    · obtain ⟨y, hy, rfl⟩ := List.mem_map.mp hb
      have hy := List.mem_reverse.mp hy
      exact (gE y (lm y hy).1 (lm y hy).2).2.2.2.2.1 2 7
  · refine ⟨?_, h5.2.1, ?_, fun q hq => ?_⟩
    · rw [gx.2.2.2.2.1]
      refine Lk_congr _ _ (fun b hb => ?_) h5.1
      obtain ⟨i, hi, rfl⟩ := List.mem_iff_getElem.mp hb
      have h7 := (h5.2.2.2 i (by rw [← h5.2.1]; exact hi)).1
      have : pl.getD i 0 = pl[i] := by simp [List.getD, hi]
      rw [this] at h7
      exact (hg _ (by rw [h7]; decide)).2.2.2.2.1 5 6
    · rw [gx.2.2.2.2.1]; exact h5.2.2.1
    · have h7 := h5.2.2.2 q hq
      have g := hg (pl.getD q 0) (by rw [h7.1]; decide)
      rw [g.1, g.2.2.1, g.2.2.2.1, g.2.2.2.2.1, g.2.2.2.2.1, g.2.2.2.2.1, g.2.2.2.2.1, ee]
      exact ⟨h7.1, h7.2.1, h7.2.2.1, h7.2.2.2.1, h7.2.2.2.2.1, h7.2.2.2.2.2.1, Ac_ag hg h7.2.2.2.2.2.2.1, Ac_ag hg h7.2.2.2.2.2.2.2⟩
  · refine ⟨fun k k' a b c a' b' c' h => ?_, fun e e' a b a' b' h h' => ?_⟩
    · rw [we k a b, we k' a' b', (gW k a b c).2.2.2.2.1, (gW k' a' b' c').2.2.2.2.1] at h
      exact h6.1 k k' a b c a' b' c' h
    · rw [ee, (gE e a b).2.2.2.2.1, (gE e' a' b').2.2.2.2.1] at h'
      rw [ee, (gE e a b).2.2.2.2.1] at h
      exact h6.2 e e' a b a' b' h h'
