/-! ===== post: the way, and the class draws it ===== -/
def cnd (r : Rs) (F : Nat → Int32) (k q : Nat) : Bool := decide (rI r 37 q = -1 ∧ gA r q = k ∧ F (gB r q) = F k - 1)
def nxt (r : Rs) (F : Nat → Int32) (k : Nat) : Nat := match (pos r).find? (cnd r F k) with
  | some q => gB r q
  | none => 0
def pth (r : Rs) (F : Nat → Int32) : Nat → Nat → List Nat
  | 0, _ => []
  | d + 1, k => k :: pth r F d (nxt r F k)
theorem pth_len (r : Rs) (F : Nat → Int32) : ∀ d k, (pth r F d k).length = d := by
  intro d
  induction d with
  | zero => intro k; rfl
  | succ d ih => intro k; show (pth r F d _).length + 1 = _; rw [ih]
theorem nxt_ok {r : Rs} {g k d : Nat} (h : Fs r g 100 k = nI (d + 1)) (hd : d + 1 < 2 ^ 31) : ∃ q ∈ pos r, (pos r).find? (cnd r (Fs r g 100) k) = some q ∧ rI r 37 q = -1 ∧ gA r q = k ∧ Fs r g 100 (gB r q) = nI d := by
  rcases Fs_val r g 100 (by decide) k with h1 | ⟨j, hj, h1, h2, h3⟩
  · rw [h1] at h; exact absurd h.symm (nI_m1 hd)
  · rw [h] at h1
    have hjd := (nI_eq hd (by omega)).mp h1
    obtain ⟨q, q1, q2, q3, q4⟩ := h3 d hjd.symm
    have hc : cnd r (Fs r g 100) k q = true := by
      unfold cnd
      rw [decide_eq_true_eq]
      exact ⟨q2, q3, by rw [q4, h, nI_pred]⟩
    cases hf : (pos r).find? (cnd r (Fs r g 100) k) with
    | none => exact absurd hc (by simpa using List.find?_eq_none.mp hf q q1)
    | some q' =>
      have a := List.find?_some hf
      have b := List.mem_of_find?_eq_some hf
      unfold cnd at a
      rw [decide_eq_true_eq] at a
      exact ⟨q', b, rfl, a.1, a.2.1, by rw [a.2.2, h, nI_pred]⟩
theorem Fs_0 {r : Rs} {g k : Nat} : Fs r g 100 k = 0 ↔ k = g := by
  constructor
  · intro h
    rcases Fs_val r g 100 (by decide) k with h1 | ⟨j, hj, h1, h2, h3⟩
    · rw [h1] at h; exact absurd h (by decide)
    · rw [h] at h1
      exact h2 (((nI_eq (a := 0) (by decide) (by omega)).mp h1).symm)
  · rintro rfl
    have : ∀ s, s < 2 ^ 31 → Fs r k s k = 0 := by
      intro s
      induction s with
      | zero => intro _; show (if k = k then (0 : Int32) else -1) = 0; rw [if_pos rfl]
      | succ s ih =>
        intro hs
        show rnd r s (pos r) (Fs r k s) k = 0
        rw [(rnd_ok r s hs (pos r) (Fs r k s) k).1 (by rw [ih (by omega)]; decide)]
        exact ih (by omega)
    exact this 100 (by decide)
theorem Fs_d {r : Rs} {g k : Nat} (h : Fs r g 100 k ≠ -1) : ∃ d, d ≤ 100 ∧ Fs r g 100 k = nI d := by
  rcases Fs_val r g 100 (by decide) k with h1 | ⟨j, hj, h1, h2, h3⟩
  · exact absurd h1 h
  · exact ⟨j, hj, h1⟩
/-- the ring alone is written -/
def Rg (ci : Nat) (w w' : Wd) : Prop := (wK w' = wK w ∧ wR w' = wR w ∧ wL w' = wL w ∧ wJ w' = wJ w ∧ xJ w' = xJ w ∧ xR w' = xR w) ∧ (∀ c k a, ¬ (c = 1 ∧ a = ci) → wI w' c k a = wI w c k a) ∧ (∀ a i, a ≠ wR w 1 0 ci → xI w' a i = xI w a i)
theorem Rg.rf (ci : Nat) (w : Wd) : Rg ci w w := ⟨⟨rfl, rfl, rfl, rfl, rfl, rfl⟩, fun _ _ _ _ => rfl, fun _ _ _ => rfl⟩
theorem Rg.tr {ci : Nat} {a b c : Wd} (h : Rg ci a b) (g : Rg ci b c) : Rg ci a c := ⟨⟨g.1.1.trans h.1.1, g.1.2.1.trans h.1.2.1, g.1.2.2.1.trans h.1.2.2.1, g.1.2.2.2.1.trans h.1.2.2.2.1, g.1.2.2.2.2.1.trans h.1.2.2.2.2.1, g.1.2.2.2.2.2.trans h.1.2.2.2.2.2⟩, fun c k a z => (g.2.1 c k a z).trans (h.2.1 c k a z), fun a i z => (g.2.2 a i (by rw [h.1.2.1]; exact z)).trans (h.2.2 a i z)⟩
theorem Rg.add (ci i : Nat) (w : Wd) (u v : Int32) : Rg ci w (sI (yI w (wR w 1 0 ci) i u) 1 1 ci v) := ⟨⟨rfl, rfl, rfl, rfl, rfl, rfl⟩, fun c k a z => by
  rw [(S_sI _ 1 1 ci v).2.2.2.2.2.2.2, if_neg (fun y => z ⟨y.1, y.2.2⟩)]; rfl, fun a j z => by
  show xI (yI w (wR w 1 0 ci) i u) a j = _
  rw [(S_yI w (wR w 1 0 ci) i u).2.2.2.2.2.2.2, if_neg (fun y => z y.1)]⟩
section P2
variable {X : Cx} {w0 : Wd} {x m : Nat} {r0 r : Rs} {pA : Nat → Nat}
theorem c_add (w : Wd) (ci b n i : Nat) (h2 : wK w ci = 2) (h13 : wK w (wR w 1 0 ci) = 13) (hl : wL w (wR w 1 0 ci) = 101) (hi : wI w 1 1 ci = nI i) (hi' : i < 101) (hb : wK w b = 10) (hr : wK w (wR w 9 8 b) = 3) (h0 : wR w 9 8 b ≠ 0) (hn : wI w 2 0 (wR w 9 8 b) = nI n) : Ct X bX1_add mX1_add [vR ci, vR b] w (qV fun w' => w' = sI (yI w (wR w 1 0 ci) i (nI n)) 1 1 ci (nI (i + 1))) := by
  refine oX1_add X _ ci b w ?_
  rw [hl, hi, nI_clamp (by omega)]
  refine ⟨h2, h13, fun q => ?_, fun _ => ⟨hb, (c_number w b hb hr h0).I ?_⟩⟩
  · have := (nI_leI (a := 101) (b := i) (by omega) (by omega)).mp q; omega
  · rintro v w1 ⟨rfl, rfl⟩
    rw [hn, hl]
    refine ⟨h13, inN hi' (by decide), ?_⟩
    rintro w9 rfl
    refine ⟨h2, ?_⟩
    rintro w11 rfl
    have e : wI (yI w1 (wR w1 1 0 ci) i (nI n)) 1 1 ci = nI i := hi
    rw [e, nI_1]
theorem c_nearLoop (hA : AT w0 x m r0 r) (hP : PF w0 x r pA) (S : Nat → Prop) (hS : ∀ k, S k → 1 ≤ k ∧ k ≤ nE r ∧ paR r k = 0) (hSq : ∀ q ∈ pos r, S (gA r q) ∧ S (gB r q)) (F : Nat → Int32) (w : Wd) (hK : wK w = wK w0) (hR : wR w = wR w0) (hf : StF w0 x S w F) (k : Nat) (hk : S k) (A : Nat → Wd → Prop) : ∀ (l : List Nat), (∀ q ∈ l, q ∈ pos r) → ∀ a, Lk (wR w0 5 6) a (l.map pA) → A (match l.find? (cnd r F k) with | some q => wA w0 x (gB r q) | none => 0) w → jX1_nearer_2 X A (wA w0 x k) a w := by
  have hz := hA.2.1.1
  have hk3 := hS k hk
  intro l
  induction l with
  | nil =>
    intro _ a hl h
    have : a = 0 := hl
    exact tX1_nearer_2 X _ _ _ w ⟨fun _ => h, fun q => absurd this q⟩
  | cons q l ih =>
    intro hl a hL h
    obtain ⟨rfl, hn, hL⟩ := Lk_cons hL
    have hq := hl q List.mem_cons_self
    have hp := hP.2 q hq
    obtain ⟨wa, wb, e1, e2, k1, k2⟩ := post_w hA hq
    have hSq' := hSq q hq
    have rb := hA.2.2.2.1.2.2.1 _ wb.1 wb.2.1 wb.2.2
    have rk := hA.2.2.2.1.2.2.1 _ hk3.1 hk3.2.1 hk3.2.2
    have skip : cnd r F k q = false → jX1_nearer_2 X A (wA w0 x k) (wR w0 5 6 (pA q)) w := fun e => ih (fun q' hq' => hl q' (List.mem_cons_of_mem _ hq')) _ hL (by rw [List.find?_cons, e] at h; exact h)
    refine tX1_nearer_2 X _ _ _ w ⟨fun z => absurd z hn, fun _ => ?_⟩
    rw [hK, hR, hp.1.2.2.1, hp.1.2.2.2.1, e1, e2, hf _ hSq'.2, hf _ hk]
    refine ⟨hp.1.1, fun z => skip ?_, fun z => ⟨k1, fun z2 => skip ?_, fun z2 => ⟨k2, rb.1.1, rk.1.1, fun z3 => skip ?_, fun z3 => ?_⟩⟩⟩
    · unfold cnd; rw [decide_eq_false_iff_not]; exact fun y => z ((Ac_0 hz hp.2.2.2).mpr y.1)
    · unfold cnd; rw [decide_eq_false_iff_not]; exact fun y => z2 (by rw [y.2.1])
    · unfold cnd; rw [decide_eq_false_iff_not]; exact fun y => z3 y.2.2
    · have e : cnd r F k q = true := by
        unfold cnd; rw [decide_eq_true_eq]
        exact ⟨(Ac_0 hz hp.2.2.2).mp z, wA_inj hA.2.2.2.2.1 hA.2.2.2.1.2.1 hA.2.2.2.1.2.2.1 wa.1 wa.2.1 wa.2.2 hk3.1 hk3.2.1 hk3.2.2 z2, z3⟩
      rw [List.find?_cons, e] at h
      exact h
theorem c_wayLoop (hA : AT w0 x m r0 r) (hP : PF w0 x r pA) (S : Nat → Prop) (hS : ∀ k, S k → 1 ≤ k ∧ k ≤ nE r ∧ paR r k = 0) (hSq : ∀ q ∈ pos r, S (gA r q) ∧ S (gB r q)) (g : Nat) (hg : S g) (A : Int32 → Wd → Prop) : ∀ (d k i p : Nat) (w : Wd), S k → Fs r g 100 k = nI d → i + d ≤ 100 → p + d ≤ 101 → wK w = wK w0 → wR w = wR w0 → wL w = wL w0 → wI w 2 0 = wI w0 2 0 → StF w0 x S w (Fs r g 100) → wI w 1 1 (wR w0 10 2 x) = nI p →
    (∀ w', Rg (wR w0 10 2 x) w w' → wI w' 1 1 (wR w0 10 2 x) = nI (p + d) → wI w' 1 2 (wR w0 10 2 x) = wI w 1 2 (wR w0 10 2 x) → (∀ j, j < d → xI w' (ca w0 x) (p + j) = nI ((pth r (Fs r g 100) d k).getD j 0)) → (∀ j, j < p → xI w' (ca w0 x) j = xI w (ca w0 x) j) → A 1 w') →
    jX1_closedBy_42 X A (wR w0 10 2 x) (wA w0 x g) (wR w0 10 6 x) (wA w0 x k) (nI i) w := by
  have hz := hA.2.1.1
  have hC := hA.2.2.1
  intro d
  induction d with
  | zero =>
    intro k i p w hk hd hi hp hK hR hL h20 hf h11 h
    have e : k = g := Fs_0.mp hd
    have fin := h w (Rg.rf _ _) h11 rfl (fun j hj => by omega) (fun _ _ => rfl)
    exact tX1_closedBy_42 X _ _ _ _ _ _ w ⟨fun _ => fin, fun _ => ⟨fun _ => fin, fun _ => ⟨fun _ => fin, fun z => absurd (by rw [e]) z⟩⟩⟩
  | succ d ih =>
    intro k i p w hk hd hi hp hK hR hL h20 hf h11 h
    have hk3 := hS k hk
    have hg3 := hS g hg
    have rk := hA.2.2.2.1.2.2.1 _ hk3.1 hk3.2.1 hk3.2.2
    have ek := hA.2.2.2.1.2.1 k hk3.1 hk3.2.1
    have hne : k ≠ g := fun e => by
      have := (Fs_0 (r := r)).mpr e
      rw [hd] at this
      exact absurd ((nI_z (by omega)).mp this) (by omega)
    obtain ⟨q, q1, q2, q3, q4, q5⟩ := nxt_ok hd (by omega)
    have hnx : nxt r (Fs r g 100) k = gB r q := by unfold nxt; rw [q2]
    refine tX1_closedBy_42 X _ _ _ _ _ _ w ⟨fun z => ?_, fun _ => ⟨fun z => absurd z (K_nz hz rk.1.1), fun _ => ⟨fun z => ?_, fun _ => ⟨?_, ?_⟩⟩⟩⟩
    · have := (nI_leI (a := 100) (b := i) (by omega) (by omega)).mp z; omega
    · exact absurd (wA_inj hA.2.2.2.2.1 hA.2.2.2.1.2.1 hA.2.2.2.1.2.2.1 hk3.1 hk3.2.1 hk3.2.2 hg3.1 hg3.2.1 hg3.2.2 z) hne
    · rw [hK]; exact hC.1.2.2.2.2.2.1
    · refine (c_add w (wR w0 10 2 x) (wA w0 x k) k p (by rw [hK]; exact hC.1.2.2.2.2.2.1) (by rw [hK, hR]; exact hC.2.2.1) (by rw [hL, hR]; exact hC.2.2.2.1) h11 (by omega) (by rw [hK]; exact rk.1.1) (by rw [hK, hR, rk.1.2.2.2.1]; exact ek.1.1) (by rw [hR, rk.1.2.2.2.1]; exact K_nz hz ek.1.1) (by rw [h20, hR, rk.1.2.2.2.1]; exact ek.1.2.1)).V ?_
      intro w4 hw4
      have hg4 : Rg (wR w0 10 2 x) w w4 := by rw [hw4]; exact Rg.add _ _ _ _ _
      have hca : wR w 1 0 (wR w0 10 2 x) = ca w0 x := by rw [hR]; rfl
      have f4 : StF w0 x S w4 (Fs r g 100) := fun k' hk' => by rw [hg4.2.1 9 16 _ (by omega)]; exact hf k' hk'
      refine oX1_nearer X _ _ _ w4 ?_
      refine c_nearLoop hA hP S hS hSq (Fs r g 100) w4 (hg4.1.1.trans hK) (hg4.1.2.1.trans hR) f4 k hk _ (pos r) (fun _ z => z) _ hP.1 ?_
      rw [q2, nI_1]
      refine ih (gB r q) (i + 1) (p + 1) w4 (hSq q q1).2 q5 (by omega) (by omega) (hg4.1.1.trans hK) (hg4.1.2.1.trans hR) (hg4.1.2.2.1.trans hL) (by rw [← h20]; funext a; exact hg4.2.1 2 0 a (by omega)) f4 (by rw [hw4]; simp [S_sI]) (fun w' c1 c2 c3 c4 c5 => h w' (hg4.tr c1) (by rw [c2]; congr 1; omega) ?_ (fun j hj => ?_) (fun j hj => ?_))
      · rw [c3, hw4]; simp [S_sI, S_yI]
      · cases j with
        | zero =>
          show xI w' (ca w0 x) p = nI k
          rw [c5 p (by omega), hw4, ← hca]
          simp [S_sI, S_yI]
        | succ j =>
          have := c4 j (by omega)
          rw [show p + (j + 1) = p + 1 + j by omega, this]
          show _ = nI ((k :: pth r (Fs r g 100) d (nxt r (Fs r g 100) k)).getD (j + 1) 0)
          rw [hnx]; rfl
      · rw [c5 j (by omega), hw4, ← hca]
        have : j ≠ p := by omega
        simp [S_sI, S_yI, this]
theorem c_closedBy (hA : AT w0 x m r0 r) (hP : PF w0 x r pA) (g st : Nat) (hg : 1 ≤ g ∧ g ≤ nE r ∧ paR r g = 0) (ht : 1 ≤ st ∧ st ≤ nE r ∧ paR r st = 0) : Ct X bX1_closedBy mX1_closedBy [vR (wR w0 10 2 x), vR (wA w0 x g), vR (wA w0 x st), vR (wR w0 10 6 x)] w0 (qI fun v w' => (Fs r g 100 st = -1 → v = 0 ∧ Sc w0 w') ∧ (Fs r g 100 st ≠ -1 → v = 1 ∧ ∃ d w1, d ≤ 100 ∧ Fs r g 100 st = nI d ∧ Sc w0 w1 ∧ Rg (wR w0 10 2 x) w1 w' ∧ wI w' 1 1 (wR w0 10 2 x) = nI (d + 1) ∧ wI w' 1 2 (wR w0 10 2 x) = wI w0 1 2 (wR w0 10 2 x) + 1 ∧ ∀ j, j < d + 1 → xI w' (ca w0 x) j = nI ((g :: pth r (Fs r g 100) d st).getD j 0))) := by
  have hz := hA.2.1.1
  have hC := hA.2.2.1
  have hS : ∀ k, (k = g ∨ k = st ∨ ∃ q ∈ pos r, k = gA r q ∨ k = gB r q) → 1 ≤ k ∧ k ≤ nE r ∧ paR r k = 0 := fun k hk => by
    rcases hk with e | e | ⟨q, hq, e | e⟩
    · rw [e]; exact hg
    · rw [e]; exact ht
    · rw [e]; exact (post_w hA hq).1
    · rw [e]; exact (post_w hA hq).2.1
  have hSq : ∀ q ∈ pos r, (gA r q = g ∨ gA r q = st ∨ ∃ q' ∈ pos r, gA r q = gA r q' ∨ gA r q = gB r q') ∧ (gB r q = g ∨ gB r q = st ∨ ∃ q' ∈ pos r, gB r q = gA r q' ∨ gB r q = gB r q') := fun q hq => ⟨Or.inr (Or.inr ⟨q, hq, Or.inl rfl⟩), Or.inr (Or.inr ⟨q, hq, Or.inr rfl⟩)⟩
  have rt := hA.2.2.2.1.2.2.1 _ ht.1 ht.2.1 ht.2.2
  have rg := hA.2.2.2.1.2.2.1 _ hg.1 hg.2.1 hg.2.2
  have eg := hA.2.2.2.1.2.1 g hg.1 hg.2.1
  refine oX1_closedBy X _ _ _ _ _ w0 (c_measure hA hP g st hg ht _ ?_)
  intro w1 c1 f1
  have es : wI w1 9 16 (wA w0 x st) = Fs r g 100 st := f1 st (Or.inr (Or.inl rfl))
  refine ⟨by rw [c1.1]; exact rt.1.1, ?_⟩
  rw [es]
  refine ⟨fun hne => ⟨by rw [c1.1]; exact hC.1.2.2.2.2.2.1, ?_⟩, fun he => ⟨fun _ => ⟨rfl, c1⟩, fun q => absurd he q⟩⟩
  obtain ⟨d, hd, hd2⟩ := Fs_d hne
  intro w6 hw6 w8 hw8
  have g8 : Rg (wR w0 10 2 x) w1 w8 := by
    rw [hw8, hw6]
    exact ⟨⟨rfl, rfl, rfl, rfl, rfl, rfl⟩, fun c k a z => by simp only [S_sI]; rw [if_neg (fun y => z ⟨y.1, y.2.2⟩), if_neg (fun y => z ⟨y.1, y.2.2⟩)], fun _ _ _ => rfl⟩
  have k8 : wK w8 = wK w0 := g8.1.1.trans c1.1
  have r8 : wR w8 = wR w0 := g8.1.2.1.trans c1.2.1
  have l8 : wL w8 = wL w0 := g8.1.2.2.1.trans c1.2.2.1
  have i20 : wI w8 2 0 = wI w0 2 0 := by rw [← c1.2.2.2.2.2.2.1 2 0 (by omega) (by decide)]; funext a; exact g8.2.1 2 0 a (by omega)
  refine (c_add w8 (wR w0 10 2 x) (wA w0 x g) g 0 (by rw [k8]; exact hC.1.2.2.2.2.2.1) (by rw [k8, r8]; exact hC.2.2.1) (by rw [l8, r8]; exact hC.2.2.2.1) (by rw [hw8]; simp [S_sI]; rfl) (by omega) (by rw [k8]; exact rg.1.1) (by rw [k8, r8, rg.1.2.2.2.1]; exact eg.1.1) (by rw [r8, rg.1.2.2.2.1]; exact K_nz hz eg.1.1) (by rw [i20, r8, rg.1.2.2.2.1]; exact eg.1.2.1)).V ?_
  intro w9 hw9
  have g9 : Rg (wR w0 10 2 x) w8 w9 := by rw [hw9]; exact Rg.add _ _ _ _ _
  have hca : wR w8 1 0 (wR w0 10 2 x) = ca w0 x := by rw [r8]; rfl
  have i12 : wI w9 1 2 (wR w0 10 2 x) = wI w0 1 2 (wR w0 10 2 x) + 1 := by
    rw [hw9, hw8, hw6, ← c1.2.2.2.2.2.2.1 1 2 (by omega) (by decide)]; simp [S_sI, S_yI]
  refine c_wayLoop hA hP _ hS hSq g (Or.inl rfl) _ d st 0 1 w9 (Or.inr (Or.inl rfl)) hd2 (by omega) (by omega) (g9.1.1.trans k8) (g9.1.2.1.trans r8) (g9.1.2.2.1.trans l8) (by rw [← i20]; funext a; exact g9.2.1 2 0 a (by omega)) (fun k hk => by rw [g9.2.1 9 16 _ (by omega), g8.2.1 9 16 _ (by omega)]; exact f1 k hk) (by rw [hw9]; simp [S_sI]) ?_
  intro w' p1 p2 p3 p4 p5
  refine ⟨fun q => absurd q hne, fun _ => ⟨rfl, d, w1, hd, hd2, c1, g8.tr (g9.tr p1), by rw [p2]; congr 1; omega, p3.trans i12, fun j hj => ?_⟩⟩
  cases j with
  | zero =>
    rw [p5 0 (by omega), hw9, ← hca]
    simp [S_sI, S_yI]
  | succ j =>
    rw [show j + 1 = 1 + j by omega, p4 j (by omega), show 1 + j = j + 1 by omega]
    rfl
end P2
