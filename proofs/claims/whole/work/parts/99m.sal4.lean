/-! ===== the sale: the class makes ready and pays ===== -/
/-- only dues, has, and a sale's left are written -/
def Fw (w w' : Wd) : Prop := wK w' = wK w ∧ wR w' = wR w ∧ wL w' = wL w ∧ wI w' = wI w ∧ xI w' = xI w ∧ xJ w' = xJ w ∧ xR w' = xR w ∧ ∀ c k, ¬ (c = 2 ∧ (k = 9 ∨ k = 10)) → c ≠ 7 → wJ w' c k = wJ w c k
theorem Fw.rf (w : Wd) : Fw w w := ⟨rfl, rfl, rfl, rfl, rfl, rfl, rfl, fun _ _ _ _ => rfl⟩
theorem Fw.tr {a b c : Wd} (h : Fw a b) (g : Fw b c) : Fw a c := ⟨g.1.trans h.1, g.2.1.trans h.2.1, g.2.2.1.trans h.2.2.1, g.2.2.2.1.trans h.2.2.2.1, g.2.2.2.2.1.trans h.2.2.2.2.1, g.2.2.2.2.2.1.trans h.2.2.2.2.2.1, g.2.2.2.2.2.2.1.trans h.2.2.2.2.2.2.1, fun c k z y => (g.2.2.2.2.2.2.2 c k z y).trans (h.2.2.2.2.2.2.2 c k z y)⟩
theorem Fw.s {w w' : Wd} (h : Fw w w') (c k a : Nat) (v : Int64) (hk : (c = 2 ∧ (k = 9 ∨ k = 10)) ∨ c = 7) : Fw w (sJ w' c k a v) := ⟨h.1, h.2.1, h.2.2.1, h.2.2.2.1, h.2.2.2.2.1, h.2.2.2.2.2.1, h.2.2.2.2.2.2.1, fun c' k' z y => by
  rw [← h.2.2.2.2.2.2.2 c' k' z y]; funext b; rw [(S_sJ w' c k a v).2.2.2.2.2.2.2, if_neg (fun q => by rcases hk with u | u <;> omega)]⟩
theorem fw_Sc {w w' : Wd} (h : Fw w w') : Sc w w' := ⟨h.1, h.2.1, h.2.2.1, h.2.2.2.2.1, h.2.2.2.2.2.1, h.2.2.2.2.2.2.1, fun _ _ _ _ => by rw [h.2.2.2.1], fun c k z y => h.2.2.2.2.2.2.2 c k z y⟩
theorem fh_Fw {w w' : Wd} (h : Fhs w w') : Fw w w' := ⟨h.1, h.2.1, h.2.2.1, h.2.2.2.1, h.2.2.2.2.1, h.2.2.2.2.2.1, h.2.2.2.2.2.2.1, fun c k z _ => h.2.2.2.2.2.2.2 c k (fun q => z ⟨q.1, Or.inr q.2⟩)⟩
theorem getL_off {d : Nat → Int64} : ∀ (l : List Nat) (o : Int64) (h : Nat → Int64) (y : Nat), y ∉ l → (getL d l o h).1 y = h y := by
  intro l
  induction l with
  | nil => intro o h y _; rfl
  | cons z t ih =>
    intro o h y hy
    show (getL d t _ _).1 y = h y
    rw [ih _ _ y (fun q => hy (List.mem_cons_of_mem _ q))]
    unfold upJ; rw [if_neg (fun e => hy (by rw [e]; exact List.mem_cons_self))]
theorem givL_off : ∀ (l : List Nat) (o : Int64) (h : Nat → Int64) (y : Nat), y ∉ l → givL l o h y = h y := by
  intro l
  induction l with
  | nil => intro o h y _; rfl
  | cons z t ih =>
    intro o h y hy
    show givL t _ _ y = h y
    rw [ih _ _ y (fun q => hy (List.mem_cons_of_mem _ q))]
    unfold upJ; rw [if_neg (fun e => hy (by rw [e]; exact List.mem_cons_self))]
section M1
variable {X : Cx} {w0 : Wd} {x m : Nat} {r0 r : Rs} {pA : Nat → Nat} {p f rq sq mo : Nat}
/-- the sale at sq of the ranking at rq -/
def SQ (w0 : Wd) (x : Nat) (r : Rs) (p f rq mo sq : Nat) : Prop := RQ w0 x (sS r 39) (sS r 39) p f rq mo ∧ wK w0 sq = 8 ∧ wR w0 7 0 sq = rq
theorem c_spreadS (hA : AT w0 x m r0 r) {k : Nat} (k1 : 1 ≤ k) (k2 : k ≤ nE r) (k3 : paR r k = 0) (A : Wd → Prop) : ∀ (l : List Nat), (∀ y ∈ l, 1 ≤ y ∧ y ≤ nE r) → l.Nodup → ∀ (a : Nat) (s d : Int64) (w : Wd), Fw w0 w → Lk (wR w0 2 8) a (l.map (eA w0 x)) →
    (∀ w', Fw w0 w' → (∀ y ∈ l, wJ w' 2 9 (eA w0 x y) = dvs (dueF r k) (rJ r 8) s d l y) → (∀ b, (∀ y ∈ l, b ≠ eA w0 x y) → wJ w' 2 9 b = wJ w 2 9 b) → wJ w' 2 10 = wJ w 2 10 → wJ w' 7 = wJ w 7 → A w') → jX9_spreadDue_11 X A (wA w0 x k) (sS r 39) s d a w := by
  intro l
  induction l with
  | nil =>
    intro _ _ a s d w hF hk h
    exact tX9_spreadDue_11 X _ _ _ _ _ _ w ⟨fun _ => h w hF (fun y hy => (by cases hy)) (fun _ _ => rfl) rfl rfl, fun z => absurd hk z⟩
  | cons y l ih =>
    intro hl nd a s d w hF hk h
    obtain ⟨rfl, hn, hk⟩ := Lk_cons hk
    obtain ⟨n1, n2⟩ := List.nodup_cons.mp nd
    have hy := hl y List.mem_cons_self
    have hCy := hA.2.2.2.1.2.1 y hy.1 hy.2
    have hkk := hA.2.2.2.1.2.2.1 k k1 k2 k3
    have hs := fw_Sc hF
    have hA' := AT_Sc hs hA
    have e4 : wJ w 2 4 (eA w0 x y) = rJ r 8 y := by rw [hF.2.2.2.2.2.2.2 2 4 (by omega) (by decide)]; exact hCy.2.1.2.1
    refine tX9_spreadDue_11 X _ _ _ _ _ _ w ⟨fun z => absurd z hn, fun _ => ?_⟩
    have hd := c_dueOf (X := X) w x r hA.2.2.2.2 hA'.2.2.2.1.2.2.1 k k1 k2 k3 (s + rJ r 8 y)
    rw [(hs.e x).2.1, hs.2.1] at hd
    rw [hs.1, hs.2.1, e4]
    refine ⟨hCy.1.1, hkk.1.1, hkk.2.2.1.1, hd.J ?_⟩
    rintro v w1 ⟨rfl, rfl⟩
    rw [hs.1]
    refine ⟨hCy.1.1, ?_⟩
    intro w8 hw8
    have hF8 : Fw w0 w8 := by rw [hw8]; exact hF.s 2 9 _ _ (Or.inl ⟨rfl, Or.inl rfl⟩)
    rw [hF8.2.1]
    have up : ∀ b, wJ w8 2 9 b = if b = eA w0 x y then dueF r k (s + rJ r 8 y) - d else wJ w1 2 9 b := fun b => by rw [hw8]; simp [S_sJ]
    refine ih (fun z hz => hl z (List.mem_cons_of_mem _ hz)) n2 _ _ _ w8 hF8 hk (fun w' c1 c2 c3 c4 c5 => h w' c1 (fun z hz => ?_) (fun b hb => ?_) (by rw [c4, hw8]; funext b; simp [S_sJ]) (by rw [c5, hw8]; funext k b; simp [S_sJ]))
    · show _ = if z = y then _ else _
      rcases List.mem_cons.mp hz with e | e
      · rw [if_pos e, e, c3 _ (fun u hu q => n1 (by
          have hu' := hl u (List.mem_cons_of_mem _ hu)
          rw [eA_inj hA.2.2.2.2.1 hA.2.2.2.1.2.1 hy.1 hy.2 hu'.1 hu'.2 q]; exact hu)), up, if_pos rfl]
      · rw [if_neg (fun q => n1 (by rw [← q]; exact e))]; exact c2 z e
    · rw [c3 b (fun z hz => hb z (List.mem_cons_of_mem _ hz)), up, if_neg (hb y List.mem_cons_self)]
theorem c_relS (hA : AT w0 x m r0 r) (hp : p < 60) {w : Wd} (hs : Sc w0 w) (h5 : wK w0 mo = 5) (hd : wI w0 4 0 mo = sS r 39) (ha : wI w0 4 1 mo = sS r 39) {e : Nat} (e1 : 1 ≤ e) (e2 : e ≤ nE r) : Ct X bX2_isReleased mX2_isReleased [vR (eA w0 x e), vI (nI p), vR mo] w (qI fun v w' => v = bI (offB r (sS r 39) (sS r 39) p e) ∧ w' = w) := by
  have hA' := AT_Sc hs hA
  have hI := hA.2.2.2.2
  have h := c_isReleased (X := X) w x r hA'.2.1.1 hI.1 hI.2.1 hI.2.2.2.1 hA'.2.2.2.1.2.1 mo p (by rw [hs.1]; exact h5) hp e e1 e2
  rw [(hs.e x).1, hs.2.2.2.2.2.2.1 4 0 (by omega) (by decide), hs.2.2.2.2.2.2.1 4 1 (by omega) (by decide), hd, ha] at h
  exact h
theorem c_readyLoop (hA : AT w0 x m r0 r) (hp : p < 60) (hq : SQ w0 x r p f rq mo sq) (A : Wd → Prop) (dd : Nat → Int64) : ∀ (l : List Nat), (∀ y ∈ l, 1 ≤ y ∧ y ≤ nE r) → l.Nodup → ∀ (a : Nat) (w : Wd), Fw w0 w → Lk (wR w0 2 8) a (l.map (eA w0 x)) → (∀ y ∈ l, wJ w 2 9 (eA w0 x y) = dd y) →
    (∀ w', Fw w0 w' → (∀ y ∈ l, wJ w' 2 9 (eA w0 x y) = (if offB r (sS r 39) (sS r 39) p y = true then 0 else dd y) ∧ wJ w' 2 10 (eA w0 x y) = 0) → (∀ b, (∀ y ∈ l, b ≠ eA w0 x y) → wJ w' 2 9 b = wJ w 2 9 b ∧ wJ w' 2 10 b = wJ w 2 10 b) → wJ w' 7 = wJ w 7 → A w') → jX7_makeReady_19 X A sq a w := by
  intro l
  induction l with
  | nil =>
    intro _ _ a w hF hk _ h
    exact tX7_makeReady_19 X _ _ _ w ⟨fun _ => h w hF (fun y hy => (by cases hy)) (fun _ _ => ⟨rfl, rfl⟩) rfl, fun z => absurd hk z⟩
  | cons y l ih =>
    intro hl nd a w hF hk hd9 h
    obtain ⟨rfl, hn, hk⟩ := Lk_cons hk
    obtain ⟨n1, n2⟩ := List.nodup_cons.mp nd
    have hy := hl y List.mem_cons_self
    have hCy := hA.2.2.2.1.2.1 y hy.1 hy.2
    have inj : ∀ u ∈ l, eA w0 x u ≠ eA w0 x y := fun u hu q => n1 (by
      have hu' := hl u (List.mem_cons_of_mem _ hu)
      rw [← eA_inj hA.2.2.2.2.1 hA.2.2.2.1.2.1 hu'.1 hu'.2 hy.1 hy.2 q]; exact hu)
    refine tX7_makeReady_19 X _ _ _ w ⟨fun z => absurd z hn, fun _ => ⟨by rw [hF.1]; exact hCy.1.1, ?_⟩⟩
    intro w3 hw3
    have hF3 : Fw w0 w3 := by rw [hw3]; exact hF.s 2 10 _ _ (Or.inl ⟨rfl, Or.inr rfl⟩)
    rw [hF3.1, hF3.2.1, hF3.2.2.2.1, hq.2.2, hq.1.1.2.2.1, hq.1.1.2.2.2.1]
    refine ⟨hq.2.1, hq.1.1.1, (c_relS hA hp (fw_Sc hF3) hq.1.2.1 hq.1.2.2.1 hq.1.2.2.2 hy.1 hy.2).I ?_⟩
    rintro v w6 ⟨rfl, rfl⟩
    have fin : ∀ w12, Fw w0 w12 → (∀ b, wJ w12 2 10 b = if b = eA w0 x y then 0 else wJ w 2 10 b) → (∀ b, wJ w12 2 9 b = if b = eA w0 x y then (if offB r (sS r 39) (sS r 39) p y = true then 0 else dd y) else wJ w 2 9 b) → wJ w12 7 = wJ w 7 → jX7_makeReady_19 X A sq (wR w0 2 8 (eA w0 x y)) w12 := by
      intro w12 hF12 u10 u9 u7
      refine ih (fun z hz => hl z (List.mem_cons_of_mem _ hz)) n2 _ w12 hF12 hk (fun z hz => by rw [u9, if_neg (inj z hz)]; exact hd9 z (List.mem_cons_of_mem _ hz)) (fun w' c1 c2 c3 c4 => h w' c1 (fun z hz => ?_) (fun b hb => ?_) (c4.trans u7))
      · rcases List.mem_cons.mp hz with e | e
        · subst e
          have hne : ∀ u ∈ l, eA w0 x z ≠ eA w0 x u := fun u hu q => inj u hu q.symm
          rw [(c3 _ hne).1, (c3 _ hne).2, u9, u10, if_pos rfl, if_pos rfl]
          exact ⟨rfl, rfl⟩
        · exact c2 z e
      · have hb' := hb y List.mem_cons_self
        rw [(c3 b (fun z hz => hb z (List.mem_cons_of_mem _ hz))).1, (c3 b (fun z hz => hb z (List.mem_cons_of_mem _ hz))).2, u9, u10, if_neg hb', if_neg hb']
        exact ⟨rfl, rfl⟩
    rw [hF3.1, hF3.2.1]
    refine ⟨fun z => ⟨hCy.1.1, fin w6 hF3 (fun b => by rw [hw3]; simp [S_sJ]) (fun b => ?_) (by rw [hw3]; funext k b; simp [S_sJ])⟩, fun z => ⟨hCy.1.1, ?_⟩⟩
    · rw [bI_0] at z
      have e9 : wJ w6 2 9 b = wJ w 2 9 b := by rw [hw3]; simp [S_sJ]
      rw [e9, z]
      by_cases hb : b = eA w0 x y
      · rw [if_pos hb, hb]; exact hd9 y List.mem_cons_self
      · rw [if_neg hb]
    · rw [bI_n] at z
      intro w12 hw12
      have hF12 : Fw w0 w12 := by rw [hw12]; exact hF3.s 2 9 _ _ (Or.inl ⟨rfl, Or.inl rfl⟩)
      rw [hF12.2.1]
      exact fin w12 hF12 (fun b => by rw [hw12, hw3]; simp [S_sJ]) (fun b => by rw [hw12, hw3, z]; simp [S_sJ]) (by rw [hw12, hw3]; funext k b; simp [S_sJ])
theorem c_makeReady (hA : AT w0 x m r0 r) (hp : p < 60) (hq : SQ w0 x r p f rq mo sq) {k : Nat} (hk : inR r p f k) {w : Wd} (hF : Fw w0 w) : Ct X bX7_makeReady mX7_makeReady [vR sq, vR (wA w0 x k)] w (qV fun w' => Fw w0 w' ∧ (∀ y ∈ lvs (fiR r) k, wJ w' 2 9 (eA w0 x y) = dS r p f y ∧ wJ w' 2 10 (eA w0 x y) = 0) ∧ (∀ b, (∀ y ∈ lvs (fiR r) k, b ≠ eA w0 x y) → wJ w' 2 9 b = wJ w 2 9 b ∧ wJ w' 2 10 b = wJ w 2 10 b) ∧ wJ w' 7 = wJ w 7) := by
  have hI := hA.2.2.2.2
  obtain ⟨k1, k2, k3, -⟩ := inR_k hI hk
  have hW := hA.2.2.2.1.2.2.1 k k1 k2 k3
  have hl : ∀ y ∈ lvs (fiR r) k, 1 ≤ y ∧ y ≤ nE r := fun y hy => by have := lv_ch hI hk y hy; exact ⟨this.1, this.2.1⟩
  have nd := lvs_nodup (HT_of hI.1 hI.2.2.2.1) k k1 k2
  refine oX7_makeReady X _ _ _ w ?_
  rw [hF.1, hF.2.1, hF.2.2.2.1, hq.2.2, hq.1.1.2.2.2.1, hq.1.2.2.1]
  refine ⟨hq.2.1, hq.1.1.1, hq.1.2.1, hW.1.1, oX9_spreadDue X _ _ _ w ?_⟩
  rw [hF.1, hF.2.1]
  refine ⟨hW.1.1, c_spreadS hA k1 k2 k3 _ (lvs (fiR r) k) hl nd _ 0 0 w hF hW.2.2.2.2.1 (fun w1 c1 c2 c3 c4 c5 => ?_)⟩
  rw [c1.1, c1.2.1]
  refine ⟨hW.1.1, c_readyLoop hA hp hq _ _ (lvs (fiR r) k) hl nd _ w1 c1 hW.2.2.2.2.1 c2 (fun w2 d1 d2 d3 d4 => ⟨d1, fun y hy => ?_, fun b hb => ?_, d4.trans c5⟩)⟩
  · rw [(d2 y hy).1, (d2 y hy).2]
    refine ⟨?_, rfl⟩
    unfold dS duS
    rw [if_pos (rkd_lv hI hk hy), (lv_wh hI k1 k2 k3 hy).1]
  · rw [(d3 b hb).1, (d3 b hb).2, c3 b hb, c4]
    exact ⟨rfl, rfl⟩
theorem c_allReady (hA : AT w0 x m r0 r) (hp : p < 60) (hq : SQ w0 x r p f rq mo sq) {mv : Nat → Int32} (hR : RkS w0 x (chF r f) w0 (ordS r (sS r 39) (sS r 39) p f).1 mv) (A : Wd → Prop) : ∀ (l : List Nat), (∀ y ∈ l, y ∈ chF r f) → l.Nodup → ∀ (a : Nat) (w : Wd), Fw w0 w → Lk (wR w0 9 12) a (l.map (wA w0 x)) → (∀ y, 1 ≤ y → y ≤ nE r → rkd r p f y = true → whR r y ∉ l → wJ w 2 9 (eA w0 x y) = dS r p f y ∧ wJ w 2 10 (eA w0 x y) = 0) →
    (∀ w', Fw w0 w' → HaF r p f w0 x w' (dS r p f) (fun _ => 0) → wJ w' 7 = wJ w 7 → jX7_distribute_11 X A sq 0 w') → jX7_distribute_11 X A sq a w := by
  have hI := hA.2.2.2.2
  have hN := hI.1.2.1.2
  obtain ⟨hin, hlen⟩ := (ordS_ok (r := r) (dy := sS r 39) (as := sS r 39) (p := p) (f := f) hI).in hI
  intro l
  induction l with
  | nil =>
    intro _ _ a w hF hk hd h
    have : a = 0 := hk
    subst this
    exact h w hF (fun y y1 y2 y3 => hd y y1 y2 y3 (by simp)) rfl
  | cons k l ih =>
    intro hl nd a w hF hk hd h
    obtain ⟨rfl, hn, hk⟩ := Lk_cons hk
    obtain ⟨n1, n2⟩ := List.nodup_cons.mp nd
    have hkc := hl k List.mem_cons_self
    obtain ⟨k10, k98, k0, k1, k2, k3, k4⟩ := ch_w hA hkc
    have hl' : ∀ z ∈ l, z ∈ chF r f := fun z hz => hl z (List.mem_cons_of_mem _ hz)
    refine tX7_distribute_11 X _ _ _ w ⟨fun z => absurd z hn, fun _ => ?_⟩
    rw [hF.1, hF.2.1, hF.2.2.2.1, (hR k hkc).1, idx_m1 (by omega)]
    refine ⟨k10, fun z => ih hl' n2 _ w hF hk (fun y y1 y2 y3 y4 => hd y y1 y2 y3 (fun q => ?_)) h, fun z => ⟨hq.2.1, ?_⟩⟩
    · rcases List.mem_cons.mp q with e | e
      · have := (rkd_iff.mp y3).2; unfold inR at this; rw [e] at this; exact z this
      · exact y4 e
    · have hkO : inR r p f k := Classical.byContradiction z
      refine (c_makeReady hA hp hq hkO hF).V ?_
      rintro w1 ⟨c1, c2, c3, c4⟩
      rw [c1.1, c1.2.1]
      refine ⟨k10, ih hl' n2 _ w1 c1 hk (fun y y1 y2 y3 y4 => ?_) (fun w' d1 d2 d3 => h w' d1 d2 (d3.trans c4))⟩
      by_cases e : whR r y = k
      · exact c2 y (by rw [← e]; exact lvs_wh hI y1 y2 (rkd_iff.mp y3).1)
      · have hne : ∀ u ∈ lvs (fiR r) k, eA w0 x y ≠ eA w0 x u := fun u hu q => by
          have hu' := lv_wh hI k1 k2 k3 hu
          have := eA_inj hI.1 hA.2.2.2.1.2.1 y1 y2 hu'.2.1 hu'.2.2.1 q
          rw [this] at e; exact e hu'.1
        rw [(c3 _ hne).1, (c3 _ hne).2]
        exact hd y y1 y2 y3 (fun q => by
          rcases List.mem_cons.mp q with u | u
          · exact e u
          · exact y4 u)
theorem c_payLoop (hA : AT w0 x m r0 r) (hq : SQ w0 x r p f rq mo sq) (hL : LiF r (sS r 39) (sS r 39) p w0 x (chF r f) w0) (d : Nat → Int64) (ah : Bool) (A : Wd → Prop) : ∀ (l : List Nat), (∀ y ∈ l, y ∈ chF r f) → ∀ (a : Nat) (w : Wd) (s : (Nat → Int64) × Int64), Fw w0 w → HaF r p f w0 x w d s.1 → wJ w 7 1 sq = s.2 → Lk (wR w0 9 12) a (l.map (wA w0 x)) →
    (∀ w', Fw w0 w' → HaF r p f w0 x w' d ((l.filter (plQ r (sS r 39) (sS r 39) p ah)).foldl (payS r d) s).1 → wJ w' 7 1 sq = ((l.filter (plQ r (sS r 39) (sS r 39) p ah)).foldl (payS r d) s).2 → A w') → jX7_payPlaces_11 X A sq (bI ah) a w := by
  have hI := hA.2.2.2.2
  intro l
  induction l with
  | nil =>
    intro _ a w s hF hf h7 hk h
    have : a = 0 := hk
    subst this
    exact tX7_payPlaces_11 X _ _ _ _ w ⟨fun _ => h w hF hf h7, fun z => absurd rfl z⟩
  | cons y l ih =>
    intro hl a w s hF hf h7 hk h
    obtain ⟨rfl, hn, hk⟩ := Lk_cons hk
    have hy := hl y List.mem_cons_self
    obtain ⟨k10, k98, k0, y1, y2, y3, y4⟩ := ch_w hA hy
    have hl' : ∀ z ∈ l, z ∈ chF r f := fun z hz => hl z (List.mem_cons_of_mem _ hz)
    have hs := fw_Sc hF
    have hSq : Sq rq w0 w := ⟨hs, by rw [hF.2.2.2.1]⟩
    have hLw : LiF r (sS r 39) (sS r 39) p w0 x (chF r f) w := fun z hz => by rw [hF.2.2.2.1]; exact hL z hz
    refine tX7_payPlaces_11 X _ _ _ _ w ⟨fun z => absurd z hn, fun _ => ?_⟩
    have hpb := c_placedBy (X := X) hA hq.1 hSq hLw hy ah
    rw [hF.1, hF.2.1, hq.2.2]
    refine ⟨hq.2.1, hq.1.1.1, hpb.R ?_⟩
    rintro v w1 ⟨rfl, rfl⟩
    by_cases hpl : plB r (sS r 39) (sS r 39) p y = true ∧ fstB r (sS r 39) (sS r 39) y = ah
    · rw [if_pos hpl]
      have hfl : (y :: l).filter (plQ r (sS r 39) (sS r 39) p ah) = y :: l.filter (plQ r (sS r 39) (sS r 39) p ah) := by
        rw [List.filter_cons, if_pos]
        unfold plQ; rw [hpl.1, hpl.2]; simp
      rw [hfl, List.foldl_cons] at h
      have hoc := own_ch hI hy hpl.1
      obtain ⟨o10, o98, o0, o1, o2, o3, o4⟩ := ch_w hA hoc
      have hCo := hA.2.2.2.1.2.1 _ o1 o2
      have hwo : whR r (own r y) = own r y := (hI.2.2.2.1 _ o1 o2).2.1.2.2.2.1.mp o3
      have hko : inR r p f (whR r (own r y)) := by
        rw [hwo]; exact ((ordS_ok hI).2 _).mpr (OLs_mem.mpr ⟨y, hy, hpl.1, rfl⟩)
      rw [hF.1, hF.2.1, o98, h7]
      have fin : ∀ (w24 : Wd) (v : Int64), Fhs w1 w24 → HaF r p f w0 x w24 d (getL d (lvs (fiR r) (own r y)) (payM r s.2 y) s.1).1 → v = payM r s.2 y - (getL d (lvs (fiR r) (own r y)) (payM r s.2 y) s.1).2 → wK w24 sq = 8 ∧ ∀ w27 : Wd, w27 = sJ w24 7 1 sq (s.2 - v) → wK w27 (wA w0 x y) = 10 ∧ jX7_payPlaces_11 X A sq (bI ah) (wR w27 9 12 (wA w0 x y)) w27 := by
        rintro w24 v g1 g2 rfl
        have hF24 := hF.tr (fh_Fw g1)
        refine ⟨by rw [hF24.1]; exact hq.2.1, ?_⟩
        intro w27 hw27
        have hF27 : Fw w0 w27 := by rw [hw27]; exact hF24.s 7 1 _ _ (Or.inr rfl)
        rw [hF27.1, hF27.2.1]
        refine ⟨k10, ih hl' _ w27 (payS r d s y) hF27 (fun u u1 u2 u3 => ?_) (by rw [hw27]; simp [S_sJ]; rfl) hk h⟩
        have hu := g2 u u1 u2 u3
        rw [hw27]
        simp only [S_sJ]
        exact ⟨hu.1, hu.2⟩
      refine ⟨fun z => absurd z o0, fun _ => ⟨o10, fun z => absurd z (K_nz hA.2.1.1 hCo.1.1), fun _ => ⟨fun hne => ⟨hq.2.1, k10, ?_⟩, fun he => ⟨hq.2.1, ?_⟩⟩⟩⟩
      · have h6 : rI r 3 y = 6 := Classical.byContradiction fun q => hne (by unfold own; rw [if_neg q])
        have hA1 := AT_Sc hs hA
        have how := c_owedWhole (X := X) w1 x r hI.1 hI.2.2.2.1 hA1.2.2.2.1.2.1 hA1.2.2.2.1.2.2.1 y y1 y2 y3
        rw [(hs.e x).2.1] at how
        refine how.J ?_
        rintro v w13 ⟨rfl, rfl⟩
        have hfi : fiR r y = 0 := by
          apply Classical.byContradiction; intro z
          have H := HT_of hI.1 hI.2.2.2.1
          have hk := H.kids y1 y2 z
          have hE := hI.2.2.2.1 (fiR r y) (by omega) (by omega)
          have hw : whR r (fiR r y) = y := by
            have := hE.2.1.2.2.2.2 (by rw [hk.2.2.2.1]; omega)
            rw [hk.2.2.2.1] at this
            rw [← this]; exact (hI.2.2.2.1 y y1 y2).2.1.2.2.2.1.mp y3
          have h6' : rI r 3 (fiR r y) = 6 := by rw [hE.2.2.2.1.2.2.1, hw]; exact h6
          have := hI.2.2.1.2.2.2.1 (fiR r y) (by omega) (by omega) h6'
          rw [hk.2.2.2.1] at this; omega
        have hsum : sumF (rJ r 8) 0 (lvs (fiR r) y) = rJ r 8 y := by
          rw [lvs_0 hfi]
          show 0 + rJ r 8 y = _
          rw [Int64.zero_add]
        rw [hsum, h7, hF.1, hF.2.1, o98]
        have hM : (if rJ r 8 y < s.2 then rJ r 8 y else s.2) = payM r s.2 y := by unfold payM; rw [if_pos h6]; rfl
        rw [hM]
        refine ⟨hq.2.1, o10, (c_get hA o1 o2 hko (payM r s.2 y) hs hf).J ?_⟩
        rintro v w18 ⟨g1, g2, g3⟩
        exact fin w18 v g1 g2 g3
      · have h6 : rI r 3 y ≠ 6 := fun q => by
          have hv := pl_vW hI hy hpl.1
          have he' : own r y = y := ch_inj hA hoc hy he
          unfold own at he'; rw [if_pos q] at he'
          have hb := (hI.2.2.2.1 y y1 y2).2.2.2.2.2.2.2.1 (hv.2.2 q)
          rw [he'] at hb
          have := (hI.2.2.2.1 y y1 y2).2.2.2.2.2.2.2.2 (by rw [hb.2.2.2]; omega)
          exact this.1 q
        have hM : s.2 = payM r s.2 y := by unfold payM; rw [if_neg h6]
        have hg := c_get (X := X) hA o1 o2 hko s.2 hs hf
        refine hg.J ?_
        rintro v w24 ⟨g1, g2, g3⟩
        exact fin w24 v g1 (by rw [← hM]; exact g2) (by rw [← hM]; exact g3)
    · rw [if_neg hpl]
      have hfl : (y :: l).filter (plQ r (sS r 39) (sS r 39) p ah) = l.filter (plQ r (sS r 39) (sS r 39) p ah) := by
        rw [List.filter_cons, if_neg]
        unfold plQ
        intro q
        simp at q
        exact hpl q
      rw [hfl] at h
      refine ⟨fun _ => ⟨by rw [hF.1]; exact k10, ?_⟩, fun z => absurd rfl z⟩
      rw [hF.2.1]
      exact ih hl' _ w1 s hF hf h7 hk h
end M1
