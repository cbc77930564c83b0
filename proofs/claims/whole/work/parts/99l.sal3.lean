/-! ===== the sale: the class takes and gives ===== -/
/-- only what the leaves have is written -/
def Fhs (w w' : Wd) : Prop := wK w' = wK w ∧ wR w' = wR w ∧ wL w' = wL w ∧ wI w' = wI w ∧ xI w' = xI w ∧ xJ w' = xJ w ∧ xR w' = xR w ∧ ∀ c k, ¬ (c = 2 ∧ k = 10) → wJ w' c k = wJ w c k
theorem Fhs.rf (w : Wd) : Fhs w w := ⟨rfl, rfl, rfl, rfl, rfl, rfl, rfl, fun _ _ _ => rfl⟩
theorem Fhs.tr {a b c : Wd} (h : Fhs a b) (g : Fhs b c) : Fhs a c := ⟨g.1.trans h.1, g.2.1.trans h.2.1, g.2.2.1.trans h.2.2.1, g.2.2.2.1.trans h.2.2.2.1, g.2.2.2.2.1.trans h.2.2.2.2.1, g.2.2.2.2.2.1.trans h.2.2.2.2.2.1, g.2.2.2.2.2.2.1.trans h.2.2.2.2.2.2.1, fun c k z => (g.2.2.2.2.2.2.2 c k z).trans (h.2.2.2.2.2.2.2 c k z)⟩
theorem Fhs.s (w : Wd) (a : Nat) (v : Int64) : Fhs w (sJ w 2 10 a v) := ⟨rfl, rfl, rfl, rfl, rfl, rfl, rfl, fun c k z => by funext b; rw [(S_sJ w 2 10 a v).2.2.2.2.2.2.2, if_neg (fun q => z ⟨q.1, q.2.1⟩)]⟩
theorem fhs_Sc {w w' : Wd} (h : Fhs w w') : Sc w w' := ⟨h.1, h.2.1, h.2.2.1, h.2.2.2.2.1, h.2.2.2.2.2.1, h.2.2.2.2.2.2.1, fun _ _ _ _ => by rw [h.2.2.2.1], fun c k z _ => h.2.2.2.2.2.2.2 c k (fun q => z ⟨q.1, Or.inr q.2⟩)⟩
/-- due and has of the leaves of those that have a place -/
def HaF (r : Rs) (p f : Nat) (w0 : Wd) (x : Nat) (w : Wd) (d h : Nat → Int64) : Prop := ∀ y, 1 ≤ y → y ≤ nE r → rkd r p f y = true → wJ w 2 9 (eA w0 x y) = d y ∧ wJ w 2 10 (eA w0 x y) = h y
section L1
variable {X : Cx} {w0 : Wd} {x m : Nat} {r0 r : Rs} {p f : Nat}
theorem c_belowS (hA : AT w0 x m r0 r) {w : Wd} (hs : Sc w0 w) {e t : Nat} (e1 : 1 ≤ e) (e2 : e ≤ nE r) (t1 : 1 ≤ t) (t2 : t ≤ nE r) : Ct X bX2_isBelow mX2_isBelow [vR (eA w0 x e), vR (eA w0 x t)] w (qI fun v w' => v = bI (blw (paR r) e t) ∧ w' = w) := by
  have hA' := AT_Sc hs hA
  have h := c_isBelow (X := X) w x r hA.2.2.2.2.1 hA.2.2.2.2.2.2.2.1 hA'.2.2.2.1.2.1 (fun e a b => K_nz hA'.2.1.1 (hA'.2.2.2.1.2.1 e a b).1.1) t t1 t2 e e1 e2
  rw [(hs.e x).1] at h
  exact h
theorem c_getLoop (hA : AT w0 x m r0 r) {e : Nat} (e1 : 1 ≤ e) (e2 : e ≤ nE r) (d : Nat → Int64) (a : Int64) (A : Int64 → Wd → Prop) : ∀ (l : List Nat), (∀ y ∈ l, 1 ≤ y ∧ y ≤ nE r ∧ rkd r p f y = true) → l.Nodup → ∀ (o : Int64) (c : Nat) (w : Wd) (h : Nat → Int64), Sc w0 w → HaF r p f w0 x w d h → Lk (wR w0 2 8) c (l.map (eA w0 x)) →
    (∀ w', Fhs w w' → HaF r p f w0 x w' d (getL d (l.filter (fun y => blw (paR r) y e)) o h).1 → A (a - (getL d (l.filter (fun y => blw (paR r) y e)) o h).2) w') → jX7_get_11 X A (eA w0 x e) a o c w := by
  intro l
  induction l with
  | nil =>
    intro _ _ o c w h hs hf hk hA'
    have : c = 0 := hk
    subst this
    exact tX7_get_11 X _ _ _ _ _ w ⟨fun _ => hA' w (Fhs.rf w) hf, fun z => absurd rfl z⟩
  | cons y l ih =>
    intro hl nd o c w h hs hf hk hA'
    obtain ⟨rfl, hn, hk⟩ := Lk_cons hk
    obtain ⟨n1, n2⟩ := List.nodup_cons.mp nd
    obtain ⟨y1, y2, y3⟩ := hl y List.mem_cons_self
    have hy := hf y y1 y2 y3
    have hCy := hA.2.2.2.1.2.1 y y1 y2
    have hl' : ∀ z ∈ l, 1 ≤ z ∧ z ≤ nE r ∧ rkd r p f z = true := fun z hz => hl z (List.mem_cons_of_mem _ hz)
    refine tX7_get_11 X _ _ _ _ _ w ⟨fun z => absurd z hn, fun _ => ⟨by rw [hs.1]; exact hCy.1.1, (c_belowS hA hs y1 y2 e1 e2).I ?_⟩⟩
    rintro v w1 ⟨rfl, rfl⟩
    rw [hs.1, hs.2.1, hy.1, hy.2]
    refine ⟨fun z => ⟨hCy.1.1, ?_⟩, fun z => ⟨hCy.1.1, ?_⟩⟩
    · rw [bI_0] at z
      rw [List.filter_cons_of_neg (by simp [z])] at hA'
      exact ih hl' n2 o _ w1 h hs hf hk hA'
    · rw [bI_n] at z
      rw [List.filter_cons_of_pos (p := fun y => blw (paR r) y e) z] at hA'
      intro w8 hw8
      have hs8 : Sc w0 w8 := by rw [hw8]; exact hs.sJ 2 10 _ _ (Or.inl ⟨rfl, Or.inr rfl⟩)
      have hF8 : Fhs w1 w8 := by rw [hw8]; exact Fhs.s _ _ _
      rw [hs8.2.1]
      refine ih hl' n2 _ _ w8 (upJ h y (h y + mn (d y - h y) o)) hs8 (fun u u1 u2 u3 => ?_) hk (fun w' c1 c2 => hA' w' (hF8.tr c1) c2)
      have hu := hf u u1 u2 u3
      refine ⟨by rw [hF8.2.2.2.2.2.2.2 2 9 (by omega)]; exact hu.1, ?_⟩
      rw [hw8, (S_sJ w1 2 10 _ _).2.2.2.2.2.2.2]
      unfold upJ
      by_cases e : u = y
      · rw [if_pos ⟨rfl, rfl, by rw [e]⟩, if_pos e]; rfl
      · rw [if_neg (fun q => e (eA_inj hA.2.2.2.2.1 hA.2.2.2.1.2.1 u1 u2 y1 y2 q.2.2)), if_neg e]; exact hu.2
theorem lv_ch (hI : RI r) {k : Nat} (hk : inR r p f k) : ∀ y ∈ lvs (fiR r) k, 1 ≤ y ∧ y ≤ nE r ∧ rkd r p f y = true := fun y hy => by
  obtain ⟨k1, k2, k3, -⟩ := inR_k hI hk
  have := lv_wh hI k1 k2 k3 hy
  exact ⟨this.2.1, this.2.2.1, rkd_lv hI hk hy⟩
theorem wh_ent (hA : AT w0 x m r0 r) {e : Nat} (e1 : 1 ≤ e) (e2 : e ≤ nE r) : wK w0 (eA w0 x e) = 3 ∧ wR w0 2 1 (eA w0 x e) = wA w0 x (whR r e) ∧ wK w0 (wA w0 x (whR r e)) = 10 ∧ Lk (wR w0 2 8) (wR w0 9 9 (wA w0 x (whR r e))) ((lvs (fiR r) (whR r e)).map (eA w0 x)) ∧ Lk (wR w0 2 7) (wR w0 9 10 (wA w0 x (whR r e))) ((lvs (fiR r) (whR r e)).reverse.map (eA w0 x)) ∧ (lvs (fiR r) (whR r e)).filter (fun y => blw (paR r) y e) = lvs (fiR r) e ∧ (lvs (fiR r) (whR r e)).Nodup := by
  have hI := hA.2.2.2.2
  have H := HT_of hI.1 hI.2.2.2.1
  have hE := hI.2.2.2.1 e e1 e2
  have hC := hA.2.2.2.1.2.1 e e1 e2
  obtain ⟨k1, k2, k3⟩ := whole_of_r hI e1 e2
  have hW := hA.2.2.2.1.2.2.1 _ k1 k2 k3
  exact ⟨hC.1.1, hC.1.2.2.1, hW.1.1, hW.2.2.2.2.1, hW.2.2.2.2.2, lvs_filter H e1 e2 _ k1 k2 (blw_root hI.2.2.2.1 e e1 e2), lvs_nodup H _ k1 k2⟩
theorem c_get (hA : AT w0 x m r0 r) {e : Nat} (e1 : 1 ≤ e) (e2 : e ≤ nE r) (hk : inR r p f (whR r e)) (a : Int64) {w : Wd} {d h : Nat → Int64} (hs : Sc w0 w) (hf : HaF r p f w0 x w d h) : Ct X bX7_get mX7_get [vR (eA w0 x e), vJ a] w (qJ fun v w' => Fhs w w' ∧ HaF r p f w0 x w' d (getL d (lvs (fiR r) e) a h).1 ∧ v = a - (getL d (lvs (fiR r) e) a h).2) := by
  obtain ⟨k3, k21, k10, c1, c2, hfl, nd⟩ := wh_ent hA e1 e2
  refine oX7_get X _ _ _ w ?_
  rw [hs.1, hs.2.1, k21]
  refine ⟨k3, k10, c_getLoop hA e1 e2 d a _ (lvs (fiR r) (whR r e)) (lv_ch hA.2.2.2.2 hk) nd a _ w h hs hf c1 (fun w' a1 a2 => ?_)⟩
  rw [hfl] at a2 ⊢
  exact ⟨a1, a2, rfl⟩
theorem c_giveLoop (hA : AT w0 x m r0 r) {e : Nat} (e1 : 1 ≤ e) (e2 : e ≤ nE r) (d : Nat → Int64) (A : Wd → Prop) : ∀ (l : List Nat), (∀ y ∈ l, 1 ≤ y ∧ y ≤ nE r ∧ rkd r p f y = true) → ∀ (o : Int64) (c : Nat) (w : Wd) (h : Nat → Int64), Sc w0 w → HaF r p f w0 x w d h → Lk (wR w0 2 7) c (l.map (eA w0 x)) →
    (∀ w', Fhs w w' → HaF r p f w0 x w' d (givL (l.filter (fun y => blw (paR r) y e)) o h) → A w') → jX7_give_11 X A (eA w0 x e) o c w := by
  intro l
  induction l with
  | nil =>
    intro _ o c w h hs hf hk hA'
    have : c = 0 := hk
    subst this
    exact tX7_give_11 X _ _ _ _ w ⟨fun _ => hA' w (Fhs.rf w) hf, fun z => absurd rfl z⟩
  | cons y l ih =>
    intro hl o c w h hs hf hk hA'
    obtain ⟨rfl, hn, hk⟩ := Lk_cons hk
    obtain ⟨y1, y2, y3⟩ := hl y List.mem_cons_self
    have hy := hf y y1 y2 y3
    have hCy := hA.2.2.2.1.2.1 y y1 y2
    have hl' : ∀ z ∈ l, 1 ≤ z ∧ z ≤ nE r ∧ rkd r p f z = true := fun z hz => hl z (List.mem_cons_of_mem _ hz)
    refine tX7_give_11 X _ _ _ _ w ⟨fun z => absurd z hn, fun _ => ⟨by rw [hs.1]; exact hCy.1.1, (c_belowS hA hs y1 y2 e1 e2).I ?_⟩⟩
    rintro v w1 ⟨rfl, rfl⟩
    rw [hs.1, hs.2.1, hy.2]
    refine ⟨fun z => ⟨hCy.1.1, ?_⟩, fun z => ⟨hCy.1.1, ?_⟩⟩
    · rw [bI_0] at z
      rw [List.filter_cons_of_neg (by simp [z])] at hA'
      exact ih hl' o _ w1 h hs hf hk hA'
    · rw [bI_n] at z
      rw [List.filter_cons_of_pos (p := fun y => blw (paR r) y e) z] at hA'
      intro w8 hw8
      have hs8 : Sc w0 w8 := by rw [hw8]; exact hs.sJ 2 10 _ _ (Or.inl ⟨rfl, Or.inr rfl⟩)
      have hF8 : Fhs w1 w8 := by rw [hw8]; exact Fhs.s _ _ _
      rw [hs8.2.1]
      refine ih hl' _ _ w8 (upJ h y (h y - mn (h y) o)) hs8 (fun u u1 u2 u3 => ?_) hk (fun w' c1 c2 => hA' w' (hF8.tr c1) c2)
      have hu := hf u u1 u2 u3
      refine ⟨by rw [hF8.2.2.2.2.2.2.2 2 9 (by omega)]; exact hu.1, ?_⟩
      rw [hw8, (S_sJ w1 2 10 _ _).2.2.2.2.2.2.2]
      unfold upJ
      by_cases e : u = y
      · rw [if_pos ⟨rfl, rfl, by rw [e]⟩, if_pos e]; rfl
      · rw [if_neg (fun q => e (eA_inj hA.2.2.2.2.1 hA.2.2.2.1.2.1 u1 u2 y1 y2 q.2.2)), if_neg e]; exact hu.2
theorem c_give (hA : AT w0 x m r0 r) {e : Nat} (e1 : 1 ≤ e) (e2 : e ≤ nE r) (hk : inR r p f (whR r e)) (a : Int64) {w : Wd} {d h : Nat → Int64} (hs : Sc w0 w) (hf : HaF r p f w0 x w d h) : Ct X bX7_give mX7_give [vR (eA w0 x e), vJ a] w (qV fun w' => Fhs w w' ∧ HaF r p f w0 x w' d (givL (lvs (fiR r) e).reverse a h)) := by
  obtain ⟨k3, k21, k10, c1, c2, hfl, nd⟩ := wh_ent hA e1 e2
  refine oX7_give X _ _ _ w ?_
  rw [hs.1, hs.2.1, k21]
  refine ⟨k3, k10, c_giveLoop hA e1 e2 d _ (lvs (fiR r) (whR r e)).reverse (fun y hy => lv_ch hA.2.2.2.2 hk y (List.mem_reverse.mp hy)) a _ w h hs hf c2 (fun w' a1 a2 => ?_)⟩
  rw [List.filter_reverse, hfl] at a2
  exact ⟨a1, a2⟩
theorem c_hasBelow (hA : AT w0 x m r0 r) {e : Nat} (e1 : 1 ≤ e) (e2 : e ≤ nE r) (hk : inR r p f (whR r e)) {w : Wd} {d h : Nat → Int64} (hs : Sc w0 w) (hf : HaF r p f w0 x w d h) : Ct X bX7_hasBelow mX7_hasBelow [vR (eA w0 x e)] w (qJ fun v w' => v = sumF h 0 (lvs (fiR r) e) ∧ w' = w) := by
  obtain ⟨k3, k21, k10, c1, c2, hfl, nd⟩ := wh_ent hA e1 e2
  refine oX7_hasBelow X _ _ w ?_
  rw [hs.1, hs.2.1, k21]
  refine ⟨k3, k10, ?_⟩
  have key : ∀ (l : List Nat), (∀ y ∈ l, 1 ≤ y ∧ y ≤ nE r ∧ rkd r p f y = true) → ∀ (s : Int64) (c : Nat), Lk (wR w0 2 8) c (l.map (eA w0 x)) → jX7_hasBelow_10 X (fun v w' => v = sumF h s (l.filter (fun y => blw (paR r) y e)) ∧ w' = w) (eA w0 x e) s c w := by
    intro l
    induction l with
    | nil =>
      intro _ s c hk
      exact tX7_hasBelow_10 X _ _ _ _ w ⟨fun _ => ⟨rfl, rfl⟩, fun z => absurd hk z⟩
    | cons y l ih =>
      intro hl s c hk
      obtain ⟨rfl, hn, hk⟩ := Lk_cons hk
      obtain ⟨y1, y2, y3⟩ := hl y List.mem_cons_self
      have hy := hf y y1 y2 y3
      have hCy := hA.2.2.2.1.2.1 y y1 y2
      have hl' : ∀ z ∈ l, 1 ≤ z ∧ z ≤ nE r ∧ rkd r p f z = true := fun z hz => hl z (List.mem_cons_of_mem _ hz)
      refine tX7_hasBelow_10 X _ _ _ _ w ⟨fun z => absurd z hn, fun _ => ⟨by rw [hs.1]; exact hCy.1.1, (c_belowS hA hs y1 y2 e1 e2).I ?_⟩⟩
      rintro v w1 ⟨rfl, rfl⟩
      rw [hs.1, hs.2.1, hy.2]
      refine ⟨fun z => ⟨hCy.1.1, ?_⟩, fun z => ⟨hCy.1.1, ?_⟩⟩
      · rw [bI_0] at z
        rw [List.filter_cons_of_neg (by simp [z])]
        exact ih hl' s _ hk
      · rw [bI_n] at z
        rw [List.filter_cons_of_pos (p := fun y => blw (paR r) y e) z]
        exact ih hl' _ _ hk
  have := key (lvs (fiR r) (whR r e)) (lv_ch hA.2.2.2.2 hk) 0 _ c1
  rw [hfl] at this
  exact this
theorem c_dueBelowS (hA : AT w0 x m r0 r) {e : Nat} (e1 : 1 ≤ e) (e2 : e ≤ nE r) (hk : inR r p f (whR r e)) {w : Wd} {d h : Nat → Int64} (hs : Sc w0 w) (hf : HaF r p f w0 x w d h) : Ct X bX9_leafDueBelow mX9_leafDueBelow [vR (wA w0 x (whR r e)), vR (eA w0 x e)] w (qJ fun v w' => v = sumF d 0 (lvs (fiR r) e) ∧ w' = w) := by
  obtain ⟨k3, k21, k10, c1, c2, hfl, nd⟩ := wh_ent hA e1 e2
  have hA' := AT_Sc hs hA
  refine oX9_leafDueBelow X _ _ _ w ?_
  rw [hs.1, hs.2.1]
  refine ⟨k10, ?_⟩
  have h1 := c_ldLoop (X := X) w x r d hA'.2.1.1 hA.2.2.2.2.1 hA.2.2.2.2.2.2.2.1 hA'.2.2.2.1.2.1 e e1 e2 (lvs (fiR r) (whR r e)) (wR w0 9 9 (wA w0 x (whR r e))) 0 (fun y hy => by
    have := lv_ch hA.2.2.2.2 hk y hy
    rw [(hs.e x).1]
    exact ⟨this.1, this.2.1, (hf y this.1 this.2.1 this.2.2).1⟩) (by rw [hs.2.1, (hs.e x).1]; exact c1)
  rw [(hs.e x).1, hfl] at h1
  exact h1
theorem mn_if (a b : Int64) : (if a < b then a else b) = mn a b := rfl
theorem c_giveWay (hA : AT w0 x m r0 r) {pA : Nat → Nat} (hP : PF w0 x r pA) {q : Nat} (hq : q ∈ pos r) (hc : cntP r (sS r 39) (sS r 39) p f q = true) {w : Wd} {d h : Nat → Int64} (hs : Sc w0 w) (hf : HaF r p f w0 x w d h) : Ct X bX7_giveWay mX7_giveWay [vR (pA q)] w (qV fun w' => Fhs w w' ∧ HaF r p f w0 x w' d (gwS r d h q)) := by
  have hI := hA.2.2.2.2
  have hpp := hP.2 q hq
  have hq' := pos_mem.mp hq
  have hp := hI.2.2.2.2.1 q hq'.1 hq'.2
  obtain ⟨wa, wb, e1, e2, k1, k2⟩ := post_w hA hq
  have hO := ordS_ok (r := r) (dy := sS r 39) (as := sS r 39) (p := p) (f := f) hI
  have hm := cntP_in hI hq hc
  have ka : inR r p f (whR r (ix r 31 q)) := (hO.2 _).mpr hm.1
  have kb : inR r p f (whR r (ix r 32 q)) := (hO.2 _).mpr hm.2
  have rb := hA.2.2.2.1.2.2.1 _ wb.1 wb.2.1 wb.2.2
  refine oX7_giveWay X _ _ w ?_
  rw [hs.1, hs.2.1, hpp.1.2.2.2.1, e2]
  refine ⟨hpp.1.1, k2, rb.1.1, (c_dueBelowS hA hp.2.2.2.2.1 hp.2.2.2.2.2 kb hs hf).J ?_⟩
  rintro v w3 ⟨rfl, rfl⟩
  have e53 : wJ w3 5 3 (pA q) = rJ r 33 q := by rw [hs.2.2.2.2.2.2.2 5 3 (by omega) (by decide)]; exact hpp.1.2.2.2.2
  rw [hs.1, hs.2.1, hpp.1.2.2.1, e53]
  refine ⟨hpp.1.1, (c_hasBelow hA hp.2.1 hp.2.2.1 ka hs hf).J ?_⟩
  rintro v w7 ⟨rfl, rfl⟩
  rw [hs.1, hs.2.1, hpp.1.2.2.2.1]
  refine ⟨hpp.1.1, (c_hasBelow hA hp.2.2.2.2.1 hp.2.2.2.2.2 kb hs hf).J ?_⟩
  rintro v w10 ⟨rfl, rfl⟩
  rw [hs.1, hs.2.1, hpp.1.2.2.1]
  refine ⟨hpp.1.1, (c_give hA hp.2.1 hp.2.2.1 ka (gwX r d h q) hs hf).V ?_⟩
  rintro w13 ⟨g1, f1⟩
  have s1 := hs.tr (fhs_Sc g1)
  rw [s1.1, s1.2.1, hpp.1.2.2.2.1]
  refine ⟨hpp.1.1, (c_give hA hp.2.2.2.2.1 hp.2.2.2.2.2 kb (gwY r d h q) s1 f1).V ?_⟩
  rintro w16 ⟨g2, f2⟩
  have s2 := s1.tr (fhs_Sc g2)
  rw [s2.1, s2.2.1, hpp.1.2.2.2.1]
  refine ⟨hpp.1.1, (c_get hA hp.2.2.2.2.1 hp.2.2.2.2.2 kb (gwX r d h q) s2 f2).J ?_⟩
  rintro v w19 ⟨g3, f3, rfl⟩
  have s3 := s2.tr (fhs_Sc g3)
  rw [s3.1, s3.2.1, hpp.1.2.2.1]
  refine ⟨hpp.1.1, (c_get hA hp.2.1 hp.2.2.1 ka (gwY r d h q) s3 f3).J ?_⟩
  rintro v w22 ⟨g4, f4, rfl⟩
  exact ⟨((g1.tr g2).tr g3).tr g4, f4⟩
end L1
