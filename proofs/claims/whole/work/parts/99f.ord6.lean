/-! ===== the order: the class arranges ===== -/
def RQ (w0 : Wd) (x : Nat) (dy as : Int32) (p f rq mo : Nat) : Prop := (wK w0 rq = 7 ∧ wR w0 6 0 rq = fA w0 x f ∧ wI w0 6 1 rq = nI p ∧ wR w0 6 2 rq = mo ∧ wR w0 6 3 rq = wR w0 10 6 x) ∧ wK w0 mo = 5 ∧ wI w0 4 0 mo = dy ∧ wI w0 4 1 mo = as
def Sq (rq : Nat) (w0 w : Wd) : Prop := Sc w0 w ∧ wI w 6 1 rq = wI w0 6 1 rq
theorem Sq.s9 {rq : Nat} {w0 w : Wd} (h : Sq rq w0 w) (k a : Nat) (v : Int32) (hk : 13 ≤ k) : Sq rq w0 (sI w 9 k a v) := ⟨h.1.sI 9 k a v (Or.inl ⟨rfl, hk⟩), by rw [(S_sI w 9 k a v).2.2.2.2.2.2.2, if_neg (by omega)]; exact h.2⟩
theorem Sq.s6 {rq : Nat} {w0 w : Wd} (h : Sq rq w0 w) (v : Int32) : Sq rq w0 (sI w 6 4 rq v) := ⟨h.1.sI 6 4 rq v (Or.inr rfl), by rw [(S_sI w 6 4 rq v).2.2.2.2.2.2.2, if_neg (by omega)]; exact h.2⟩
def LiF (r : Rs) (dy as : Int32) (p : Nat) (w0 : Wd) (x : Nat) (l : List Nat) (w : Wd) : Prop := ∀ y ∈ l, wI w 9 13 (wA w0 x y) = bI (liesB r dy as y p)
def RkS (w0 : Wd) (x : Nat) (l : List Nat) (w : Wd) (O : List Nat) (mv : Nat → Int32) : Prop := ∀ y ∈ l, wI w 9 14 (wA w0 x y) = idx O y ∧ wI w 9 15 (wA w0 x y) = mv y
section O8
variable {X : Cx} {w0 : Wd} {x m : Nat} {r0 r : Rs} {pA : Nat → Nat} {dy as : Int32} {p f rq mo : Nat}
theorem ch_w (hA : AT w0 x m r0 r) {y : Nat} (hy : y ∈ chF r f) : wK w0 (wA w0 x y) = 10 ∧ wR w0 9 8 (wA w0 x y) = eA w0 x y ∧ wA w0 x y ≠ 0 ∧ 1 ≤ y ∧ y ≤ nE r ∧ paR r y = 0 ∧ foR r y = f := by
  have hm := chF_mem.mp hy
  have h := hA.2.2.2.1.2.2.1 y hm.1 hm.2.1 hm.2.2.1
  exact ⟨h.1.1, h.1.2.2.2.1, K_nz hA.2.1.1 h.1.1, hm.1, hm.2.1, hm.2.2.1, hm.2.2.2⟩
theorem ch_inj (hA : AT w0 x m r0 r) {y z : Nat} (hy : y ∈ chF r f) (hz : z ∈ chF r f) (h : wA w0 x y = wA w0 x z) : y = z := by
  have a := chF_mem.mp hy
  have b := chF_mem.mp hz
  exact wA_inj hA.2.2.2.2.1 hA.2.2.2.1.2.1 hA.2.2.2.1.2.2.1 a.1 a.2.1 a.2.2.1 b.1 b.2.1 b.2.2.1 h
theorem c_liesS (hA : AT w0 x m r0 r) (hp : p < 60) {w : Wd} (hs : Sc w0 w) (h5 : wK w0 mo = 5) (hd : wI w0 4 0 mo = dy) (ha : wI w0 4 1 mo = as) {e : Nat} (h1 : 1 ≤ e) (h2 : e ≤ nE r) (hsz : p < ix r 0 (foR r e)) : Ct X bX2_liesOn mX2_liesOn [vR (eA w0 x e), vI (nI p), vR mo] w (qI fun v w' => v = bI (liesB r dy as e p) ∧ w' = w) := by
  have hA' := AT_Sc hs hA
  have h4 := hA'.2.2.2.1
  have := c_liesOn (X := X) w x r hA'.2.1.1 hA'.2.2.2.2 ⟨hA'.2.2.1, h4.1, h4.2.1, h4.2.2.1, h4.2.2.2.1⟩ ub_all mo p e (by rw [hs.1]; exact h5) hp h1 h2
  rw [(hs.e x).1, hs.2.2.2.2.2.2.1 4 0 (by omega) (by decide), hs.2.2.2.2.2.2.1 4 1 (by omega) (by decide), hd, ha] at this
  have e : decide (p < ix r 0 (foR r e)) = true := by simpa using hsz
  rw [e, Bool.true_and] at this
  exact this
theorem c_arrLoop (hA : AT w0 x m r0 r) (hp : p < 60) (hsz : p < ix r 0 f) (hq : RQ w0 x dy as p f rq mo) (A : Wd → Prop) : ∀ (l : List Nat), (∀ y ∈ l, y ∈ chF r f) → l.Nodup → ∀ (a : Nat) (w : Wd), Sq rq w0 w → Lk (wR w0 9 12) a (l.map (wA w0 x)) →
    (∀ w', Sq rq w0 w' → (∀ y ∈ l, wI w' 9 13 (wA w0 x y) = bI (liesB r dy as y p) ∧ wI w' 9 14 (wA w0 x y) = -1 ∧ wI w' 9 15 (wA w0 x y) = 0) → (∀ k b, (∀ y ∈ l, b ≠ wA w0 x y) → wI w' 9 k b = wI w 9 k b) → wI w' 6 4 rq = wI w 6 4 rq → jX6_arrange_8 X A rq 0 w') → jX6_arrange_8 X A rq a w := by
  intro l
  induction l with
  | nil =>
    intro _ _ a w hs hk h
    have : a = 0 := hk
    subst this
    exact h w hs (fun y hy => by cases hy) (fun _ _ _ => rfl) rfl
  | cons y l ih =>
    intro hl nd a w hs hk h
    obtain ⟨rfl, hn, hk⟩ := Lk_cons hk
    obtain ⟨nd1, nd2⟩ := List.nodup_cons.mp nd
    have hy := hl y List.mem_cons_self
    obtain ⟨k10, k98, k0, y1, y2, y3, y4⟩ := ch_w hA hy
    have hEy := hA.2.2.2.1.2.1 y y1 y2
    have hl' : ∀ z ∈ l, z ∈ chF r f := fun z hz => hl z (List.mem_cons_of_mem _ hz)
    refine tX6_arrange_8 X _ _ _ w ⟨fun z => absurd z hn, fun _ => ?_⟩
    rw [hs.1.1, hs.1.2.1, k98, hs.2, hq.1.2.2.1, hq.1.2.2.2.1]
    refine ⟨k10, fun z => absurd z (K_nz hA.2.1.1 hEy.1.1), fun _ => ⟨hq.1.1, hEy.1.1, (c_liesS hA hp hs.1 hq.2.1 hq.2.2.1 hq.2.2.2 y1 y2 (by rw [y4]; exact hsz)).I ?_⟩⟩
    rintro v w1 ⟨rfl, rfl⟩
    have fin : ∀ v : Int32, v = bI (liesB r dy as y p) → ∀ w27 : Wd, w27 = sI (sI (sI w1 9 13 (wA w0 x y) v) 9 14 (wA w0 x y) (-1)) 9 15 (wA w0 x y) 0 → jX6_arrange_8 X A rq (wR w27 9 12 (wA w0 x y)) w27 := by
      intro v hv w27 hw
      have hs27 : Sq rq w0 w27 := by rw [hw]; exact ((hs.s9 13 _ _ (by omega)).s9 14 _ _ (by omega)).s9 15 _ _ (by omega)
      rw [hs27.1.2.1]
      have up : ∀ k b, wI w27 9 k b = if k = 15 ∧ b = wA w0 x y then 0 else if k = 14 ∧ b = wA w0 x y then -1 else if k = 13 ∧ b = wA w0 x y then v else wI w1 9 k b := fun k b => by
        rw [hw]; simp [S_sI]
      refine ih hl' nd2 _ w27 hs27 hk (fun w' c1 c2 c3 c4 => h w' c1 (fun z hz => ?_) (fun k b hb => ?_) (by rw [c4, hw]; simp [S_sI]))
      · rcases List.mem_cons.mp hz with e | e
        · subst e
          have hne : ∀ u ∈ l, wA w0 x z ≠ wA w0 x u := fun u hu e => nd1 (by rw [ch_inj hA hy (hl' u hu) e]; exact hu)
          rw [c3 13 _ hne, c3 14 _ hne, c3 15 _ hne, up, up, up]
          simp [hv]
        · exact c2 z e
      · rw [c3 k b (fun z hz => hb z (List.mem_cons_of_mem _ hz)), up]
        have := hb y List.mem_cons_self
        simp [this]
    have k1 : wK w1 (wA w0 x y) = 10 := by rw [hs.1.1]; exact k10
    refine ⟨fun z => ⟨k1, ?_⟩, fun z => ⟨k1, ?_⟩⟩
    · rw [bI_0] at z
      rintro w23 rfl w25 rfl w27 hw
      exact fin 0 (by rw [z]; rfl) w27 hw
    · rw [bI_n] at z
      rintro w23 rfl w25 rfl w27 hw
      exact fin 1 (by rw [z]; rfl) w27 hw
theorem c_goesAhead (hA : AT w0 x m r0 r) {w : Wd} (hs : Sc w0 w) (h5 : wK w0 mo = 5) (hd : wI w0 4 0 mo = dy) (ha : wI w0 4 1 mo = as) {y : Nat} (hy : y ∈ chF r f) : Ct X bX8_goesAhead mX8_goesAhead [vR (wR w0 9 3 (wA w0 x y)), vR mo] w (qI fun v w' => v = bI (fstB r dy as y) ∧ w' = w) := by
  obtain ⟨-, -, -, y1, y2, y3, -⟩ := ch_w hA hy
  have h := (hA.2.2.2.1.2.2.1 y y1 y2 y3).2.2.1
  have hz := hA.2.1.1
  have hAc := h.2.2.2.2.2.2.1
  have h5' : wK w mo = 5 := by rw [hs.1]; exact h5
  have hd' : wI w 4 0 mo = dy := by rw [hs.2.2.2.2.2.2.1 4 0 (by omega) (by decide)]; exact hd
  have ha' : wI w 4 1 mo = as := by rw [hs.2.2.2.2.2.2.1 4 1 (by omega) (by decide)]; exact ha
  have e0 : ∀ a d k, Ac w0 a d k → Ac w a d k := fun a d k hac => by unfold Ac at *; rw [hs.1, hs.2.2.2.2.2.2.1 0 0 (by omega) (by decide), hs.2.2.2.2.2.2.1 0 1 (by omega) (by decide)]; exact hac
  have hAcw := e0 _ _ _ hAc
  have hzw : wK w 0 = 0 := by rw [hs.1]; exact hz
  have hact : actB w (wR w0 8 5 (wR w0 9 3 (wA w0 x y))) mo = cntB dy as (rI r 22 y) (rI r 23 y) := by
    rw [hAcw.B (fun k => K_nz hzw (hAcw.2 k).1), hd', ha']
  have h01 : wR w0 8 5 (wR w0 9 3 (wA w0 x y)) = 0 ∨ wK w (wR w0 8 5 (wR w0 9 3 (wA w0 x y))) = 1 := by
    by_cases k : rI r 23 y = -1
    · exact Or.inl (hAcw.1 k)
    · exact Or.inr (hAcw.2 k).1
  refine oX8_goesAhead X _ _ _ w ?_
  rw [hs.1, hs.2.1]
  refine ⟨h.1, (c_happened w _ mo h01 h5').I ?_⟩
  rintro v w1 ⟨rfl, rfl⟩
  rw [hact]
  have hx := (hA.2.2.2.2.2.2.1.2.2.2.2.2 y y1 y2).1.2
  refine ⟨fun z => ⟨by rw [bI_0] at z; simp [fstB, z, bI], rfl⟩, fun z => ⟨by rw [hs.1]; exact h.1, h5', ?_⟩⟩
  rw [bI_n] at z
  have h23 : rI r 23 y ≠ -1 := fun e => by rw [e] at z; simp [cntB] at z
  have k5 : rI r 3 y = 5 := Classical.byContradiction fun q => h23 (hx q)
  rw [hd', hs.2.2.2.2.2.2.1 8 6 (by omega) (by decide), h.2.2.2.2.2.2.2.1 h23]
  exact ⟨fun z2 => ⟨by simp [fstB, z2, bI], rfl⟩, fun z2 => ⟨by simp [fstB, k5, z, z2, bI], rfl⟩⟩
theorem c_placedBy (hA : AT w0 x m r0 r) (hq : RQ w0 x dy as p f rq mo) {w : Wd} (hs : Sq rq w0 w) (hL : LiF r dy as p w0 x (chF r f) w) {y : Nat} (hy : y ∈ chF r f) (ah : Bool) : Ct X bX6_placedBy mX6_placedBy [vR rq, vR (wA w0 x y), vI (bI ah)] w (qR fun a w' => w' = w ∧ a = if plB r dy as p y = true ∧ fstB r dy as y = ah then wA w0 x (own r y) else 0) := by
  obtain ⟨k10, k98, k0, y1, y2, y3, y4⟩ := ch_w hA hy
  have h := hA.2.2.2.1.2.2.1 y y1 y2 y3
  have hI := hA.2.2.2.2
  have hz := hA.2.1.1
  have hEy := hI.2.2.2.1 y y1 y2
  have hzw : wK w 0 = 0 := by rw [hs.1.1]; exact hz
  refine oX6_placedBy X _ _ _ _ w ?_
  rw [hs.1.1, hs.1.2.1, hL y hy, hs.1.2.2.2.2.2.2.1 8 0 (by omega) (by decide), h.2.2.1.2.1, hq.1.2.2.2.1]
  refine ⟨k10, fun hl => ⟨h.2.2.1.1, fun h6 => ⟨fun z => ⟨rfl, ?_⟩, fun z => ⟨hq.1.1, ?_⟩⟩, fun h6 => ⟨hq.1.1, (c_goesAhead hA hs.1 hq.2.1 hq.2.2.1 hq.2.2.2 hy).I ?_⟩⟩, fun hl => ⟨rfl, ?_⟩⟩
  · rw [bI_n] at z
    rw [if_neg (fun q => by rw [fst_6 h6, z] at q; exact absurd q.2 (by decide))]
  · rw [bI_n] at hl
    rw [bI_0] at z
    have h25 : ix r 25 y = 0 := Classical.byContradiction fun q => (hEy.2.2.2.2.2.2.2.2 q).1 h6
    have hpr := h.2.2.2.1.1
    have hkp := h.2.2.2.1.2 h6
    rw [h25, Nat.add_zero] at hpr
    by_cases h24 : ix r 24 y = 0
    · have h97 := hkp.1 h24
      rw [h97]
      refine (c_happened w 0 mo (Or.inl rfl) (by rw [hs.1.1]; exact hq.2.1)).I ?_
      rintro v w1 ⟨rfl, rfl⟩
      have e : actB w1 0 mo = false := by simp [actB]
      rw [e]
      refine ⟨fun q => absurd rfl q, fun _ => ⟨rfl, ?_⟩⟩
      rw [if_neg (fun q => by have := q.1; unfold plB at this; rw [if_pos h6] at this; simp [h24] at this)]
    · have hc := hkp.2 h24
      have hAcw : Ac w (wR w0 9 7 (wA w0 x y)) (rI r 26 (ix r 24 y)) (rI r 27 (ix r 24 y)) := by
        have := hc.2
        unfold Ac at *; rw [hs.1.1, hs.1.2.2.2.2.2.2.1 0 0 (by omega) (by decide), hs.1.2.2.2.2.2.2.1 0 1 (by omega) (by decide)]; exact this
      have hb := hEy.2.2.2.2.2.2.2.1 h24
      have hpch : ix r 24 y ∈ chF r f := chF_mem.mpr ⟨by omega, hEy.2.2.2.2.1, hb.2.2.1, by rw [(hI.2.2.1.2.2.2.2.2 y y1 y2).1.1 h24]; exact y4⟩
      have hact : actB w (wR w0 9 7 (wA w0 x y)) mo = cntB dy as (rI r 26 (ix r 24 y)) (rI r 27 (ix r 24 y)) := by
        rw [hAcw.B (fun k => K_nz hzw (hAcw.2 k).1), hs.1.2.2.2.2.2.2.1 4 0 (by omega) (by decide), hs.1.2.2.2.2.2.2.1 4 1 (by omega) (by decide), hq.2.2.1, hq.2.2.2]
      refine (c_happened w _ mo (Or.inr (hAcw.2 hc.1).1) (by rw [hs.1.1]; exact hq.2.1)).I ?_
      rintro v w1 ⟨rfl, rfl⟩
      rw [hact, hs.1.1, hs.1.2.1, hpr, if_neg h24, hL _ hpch]
      have hpl : plB r dy as p y = (cntB dy as (rI r 26 (ix r 24 y)) (rI r 27 (ix r 24 y)) && liesB r dy as (ix r 24 y) p) := by
        unfold plB; rw [if_pos h6]; simp [hl, h24]
      have ho : own r y = ix r 24 y := by unfold own; rw [if_pos h6]
      refine ⟨fun q => ⟨k10, fun e => absurd e (ch_w hA hpch).2.2.1, fun _ => ⟨(ch_w hA hpch).1, fun q2 => ⟨rfl, ?_⟩, fun q2 => ⟨rfl, ?_⟩⟩⟩, fun q => ⟨rfl, ?_⟩⟩
      · rw [bI_0] at q2
        rw [if_neg (fun y => by rw [hpl, q2] at y; simp at y)]
      · rw [bI_n] at q q2
        rw [if_pos ⟨by rw [hpl, q, q2]; rfl, by rw [fst_6 h6, z]⟩, ho]
      · rw [bI_0] at q
        rw [if_neg (fun y => by rw [hpl, q] at y; simp at y)]
  · rw [bI_n] at hl
    rintro v w1 ⟨rfl, rfl⟩
    have hpl : plB r dy as p y = true := by unfold plB; rw [if_neg h6]; exact hl
    have ho : own r y = y := by unfold own; rw [if_neg h6]
    have inj : bI (fstB r dy as y) = bI ah ↔ fstB r dy as y = ah := by
      cases fstB r dy as y <;> cases ah <;> simp [bI]
    rw [inj]
    exact ⟨fun q => ⟨rfl, by rw [if_neg (fun z => q z.2)]⟩, fun q => ⟨rfl, by rw [if_pos ⟨hpl, q⟩, ho]⟩⟩
  · rw [bI_0] at hl
    rw [if_neg (fun q => by
      have := q.1
      unfold plB at this
      split at this
      · simp [hl] at this
      · rw [hl] at this; cases this)]
end O8
