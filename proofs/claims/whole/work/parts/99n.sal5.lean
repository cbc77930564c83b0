/-! ===== the sale: the class tells the shares, and the whole of it ===== -/
/-- all but longs is the same -/
def Fx (w w' : Wd) : Prop := wK w' = wK w ∧ wR w' = wR w ∧ wL w' = wL w ∧ wI w' = wI w ∧ xI w' = xI w ∧ xJ w' = xJ w ∧ xR w' = xR w
theorem Fx.rf (w : Wd) : Fx w w := ⟨rfl, rfl, rfl, rfl, rfl, rfl, rfl⟩
theorem Fx.tr {a b c : Wd} (h : Fx a b) (g : Fx b c) : Fx a c := ⟨g.1.trans h.1, g.2.1.trans h.2.1, g.2.2.1.trans h.2.2.1, g.2.2.2.1.trans h.2.2.2.1, g.2.2.2.2.1.trans h.2.2.2.2.1, g.2.2.2.2.2.1.trans h.2.2.2.2.2.1, g.2.2.2.2.2.2.trans h.2.2.2.2.2.2⟩
theorem fw_Fx {w w' : Wd} (h : Fw w w') : Fx w w' := ⟨h.1, h.2.1, h.2.2.1, h.2.2.2.1, h.2.2.2.2.1, h.2.2.2.2.2.1, h.2.2.2.2.2.2.1⟩
theorem Fx.e {w w' : Wd} (h : Fx w w') (x : Nat) : eA w' x = eA w x ∧ wA w' x = wA w x ∧ fA w' x = fA w x := by
  have e1 : eA w' x = eA w x := by funext e; unfold eA; rw [h.2.1, h.2.2.2.2.2.2]
  exact ⟨e1, by funext e; unfold wA; rw [h.2.1, e1], by funext e; unfold fA; rw [h.2.1, h.2.2.2.2.2.2]⟩
/-- only the shares are written -/
def Ft (w w' : Wd) : Prop := Fx w w' ∧ ∀ c k, ¬ (c = 2 ∧ k = 11) → wJ w' c k = wJ w c k
theorem Ft.rf (w : Wd) : Ft w w := ⟨Fx.rf w, fun _ _ _ => rfl⟩
theorem Ft.tr {a b c : Wd} (h : Ft a b) (g : Ft b c) : Ft a c := ⟨h.1.tr g.1, fun c k z => (g.2 c k z).trans (h.2 c k z)⟩
theorem Ft.s (w : Wd) (a : Nat) (v : Int64) : Ft w (sJ w 2 11 a v) := ⟨⟨rfl, rfl, rfl, rfl, rfl, rfl, rfl⟩, fun c k z => by funext b; rw [(S_sJ w 2 11 a v).2.2.2.2.2.2.2, if_neg (fun q => z ⟨q.1, q.2.1⟩)]⟩
/-- the shares stand for S -/
def shS (r : Rs) (S : Nat → Int64) : Rs := (sS r, sO r, rI r, fun k i => if k = 62 ∧ 1 ≤ i ∧ i ≤ nE r then S i else rJ r k i)
theorem shS_id (r : Rs) : shS r (rJ r 62) = r := by
  have : ∀ k i, (if k = 62 ∧ 1 ≤ i ∧ i ≤ nE r then rJ r 62 i else rJ r k i) = rJ r k i := fun k i => by
    by_cases h : k = 62 ∧ 1 ≤ i ∧ i ≤ nE r
    · rw [if_pos h, h.1]
    · rw [if_neg h]
  unfold shS
  rw [show (fun k i => if k = 62 ∧ 1 ≤ i ∧ i ≤ nE r then rJ r 62 i else rJ r k i) = rJ r from funext fun k => funext fun i => this k i]
  rfl
theorem shS_up (r : Rs) (S : Nat → Int64) (e : Nat) (v : Int64) (h1 : 1 ≤ e) (h2 : e ≤ nE r) : uJ (shS r S) 62 e v = shS r (upJ S e v) := by
  have : ∀ k i, rJ (uJ (shS r S) 62 e v) k i = rJ (shS r (upJ S e v)) k i := fun k i => by
    show (if k = 62 ∧ i = e then v else if k = 62 ∧ 1 ≤ i ∧ i ≤ nE r then S i else rJ r k i) = (if k = 62 ∧ 1 ≤ i ∧ i ≤ nE r then (if i = e then v else S i) else rJ r k i)
    by_cases hk : k = 62
    · by_cases hi : i = e
      · rw [if_pos ⟨hk, hi⟩, if_pos ⟨hk, by omega⟩, if_pos hi]
      · rw [if_neg (fun q => hi q.2), if_neg hi]
    · rw [if_neg (fun q => hk q.1), if_neg (fun q => hk q.1), if_neg (fun q => hk q.1)]
  show (sS r, sO r, rI r, rJ (uJ (shS r S) 62 e v)) = _
  rw [show rJ (uJ (shS r S) 62 e v) = rJ (shS r (upJ S e v)) from funext fun k => funext fun i => this k i]
  rfl
theorem shS_eq {r : Rs} {S T : Nat → Int64} (h : ∀ e, 1 ≤ e → e ≤ nE r → S e = T e) : shS r S = shS r T := by
  have : ∀ k i, (if k = 62 ∧ 1 ≤ i ∧ i ≤ nE r then S i else rJ r k i) = (if k = 62 ∧ 1 ≤ i ∧ i ≤ nE r then T i else rJ r k i) := fun k i => by
    by_cases hk : k = 62 ∧ 1 ≤ i ∧ i ≤ nE r
    · rw [if_pos hk, if_pos hk]; exact h i hk.2.1 hk.2.2
    · rw [if_neg hk, if_neg hk]
  unfold shS
  rw [show (fun k i => if k = 62 ∧ 1 ≤ i ∧ i ≤ nE r then S i else rJ r k i) = (fun k i => if k = 62 ∧ 1 ≤ i ∧ i ≤ nE r then T i else rJ r k i) from funext fun k => funext fun i => this k i]
section N1
variable {X : Cx} {w1 : Wd} {x m : Nat} {r0 r : Rs} {p f rq sq mo : Nat}
theorem AT_sh {w : Wd} {S : Nat → Int64} (hA : AT w x m r0 (shS r S)) {e : Nat} (h1 : 1 ≤ e) (h2 : e ≤ nE r) (v : Int64) : AT (sJ w 2 11 (eA w x e) v) x m r0 (shS r (upJ S e v)) := by
  have := AT_uJ (r' := shS r S) (Or.inr (Or.inl ⟨rfl, rfl⟩)) h1 h2 v hA (show RIx (shS r S) from hA.2.2.2.2.2.2.1.2.2.2.2.2)
  rw [shS_up r S e v h1 h2] at this
  exact this
theorem c_tellUp (hE : RIE r) (A : Wd → Prop) (ly : Nat) (v : Int64) (hv : wJ w1 2 10 ly = v) (hly : wK w1 ly = 3) : ∀ e, e ≤ nE r → ∀ (w : Wd) (S : Nat → Int64), Ft w1 w → AT w x m r0 (shS r S) →
    (∀ w', Ft w1 w' → AT w' x m r0 (shS r (fun t => if blw (paR r) e t = true then S t + v else S t)) → jX7_tellShares_5 X A (wR w1 2 8 ly) w') → jX7_tellShares_11 X A ly (if e = 0 then 0 else eA w1 x e) w := by
  intro e
  induction e using Nat.strongRecOn with
  | ind e ih =>
    intro he w S hF hA h
    by_cases h0 : e = 0
    · rw [if_pos h0]
      refine tX7_tellShares_11 X _ _ _ w ⟨fun _ => ?_, fun z => absurd rfl z⟩
      rw [hF.1.1, hF.1.2.1]
      refine ⟨hly, h w hF ?_⟩
      have : (fun t => if blw (paR r) e t = true then S t + v else S t) = S := by
        funext t; rw [h0, blw_0]; rfl
      rw [this]; exact hA
    · rw [if_neg h0]
      have hCe := hA.2.2.2.1.2.1 e (by omega) he
      rw [(hF.1.e x).1] at hCe
      have hp := (hE e (by omega) he).2.2.1.1
      have e11 : wJ w 2 11 (eA w1 x e) = S e := by
        have := hCe.2.1.2.2.2.1
        rw [this]
        show (if 62 = 62 ∧ 1 ≤ e ∧ e ≤ nE r then S e else _) = _
        rw [if_pos ⟨rfl, by omega, he⟩]
      have e10 : wJ w 2 10 ly = v := by rw [hF.2 2 10 (by omega)]; exact hv
      refine tX7_tellShares_11 X _ _ _ w ⟨fun z => absurd z (K_nz hA.2.1.1 hCe.1.1), fun _ => ⟨hCe.1.1, by rw [hF.1.1]; exact hly, ?_⟩⟩
      rw [e11, e10]
      intro w5 hw5
      have hF5 : Ft w1 w5 := by rw [hw5]; exact hF.tr (Ft.s _ _ _)
      have hA5 : AT w5 x m r0 (shS r (upJ S e (S e + v))) := by
        rw [hw5, ← (hF.1.e x).1]; exact AT_sh hA (by omega) he _
      have e22 : wR w5 2 2 (eA w1 x e) = if paR r e = 0 then 0 else eA w1 x (paR r e) := by
        have := hCe.1.2.2.2
        rw [hF5.1.2.1, ← hF.1.2.1]; exact this
      rw [e22]
      refine ih (paR r e) hp (by omega) w5 _ hF5 hA5 (fun w' c1 c2 => h w' c1 ?_)
      have : (fun t => if blw (paR r) (paR r e) t = true then upJ S e (S e + v) t + v else upJ S e (S e + v) t) = (fun t => if blw (paR r) e t = true then S t + v else S t) := by
        funext t
        rw [blw_eq h0 hp]
        unfold upJ
        by_cases ht : t = e
        · have hb : blw (paR r) (paR r e) t = false := by
            cases hq : blw (paR r) (paR r e) t with
            | false => rfl
            | true => have := (blw_le _ _ hq).1; omega
          rw [hb, if_pos ht, if_pos (show e = t from ht.symm), if_neg (by decide), if_pos rfl, ht]
        · rw [if_neg ht, if_neg (show ¬ e = t from fun q => ht q.symm)]
      rw [← this]; exact c2
theorem c_tellLeaves (hI : RI r) (hd : Nat → Int64) (A : Wd → Prop) (hW : ∀ y, 1 ≤ y → y ≤ nE r → rkd r p f y = true → wJ w1 2 10 (eA w1 x y) = hd y) : ∀ (l : List Nat), (∀ y ∈ l, 1 ≤ y ∧ y ≤ nE r ∧ rkd r p f y = true) → ∀ (a : Nat) (w : Wd) (S : Nat → Int64), Ft w1 w → AT w x m r0 (shS r S) → Lk (wR w1 2 8) a (l.map (eA w1 x)) →
    (∀ w', Ft w1 w' → AT w' x m r0 (shS r (fun t => sumF hd (S t) (l.filter (fun y => blw (paR r) y t)))) → A w') → jX7_tellShares_5 X A a w := by
  intro l
  induction l with
  | nil =>
    intro _ a w S hF hA hk h
    exact tX7_tellShares_5 X _ _ w ⟨fun _ => h w hF hA, fun z => absurd hk z⟩
  | cons y l ih =>
    intro hl a w S hF hA hk h
    obtain ⟨rfl, hn, hk⟩ := Lk_cons hk
    obtain ⟨y1, y2, y3⟩ := hl y List.mem_cons_self
    have hCy := (hA.2.2.2.1.2.1 y y1 y2).1.1
    rw [(hF.1.e x).1, hF.1.1] at hCy
    refine tX7_tellShares_5 X _ _ w ⟨fun z => absurd z hn, fun _ => ?_⟩
    have := c_tellUp (X := X) (r := r) (m := m) (r0 := r0) hI.2.2.2.1 A (eA w1 x y) (hd y) (hW y y1 y2 y3) hCy y y2 w S hF hA (fun w' c1 c2 => ih (fun z hz => hl z (List.mem_cons_of_mem _ hz)) _ w' _ c1 c2 hk (fun w'' d1 d2 => h w'' d1 ?_))
    · rw [if_neg (by omega)] at this; exact this
    · have e : (fun t => sumF hd (if blw (paR r) y t = true then S t + hd y else S t) (l.filter (fun y => blw (paR r) y t))) = (fun t => sumF hd (S t) ((y :: l).filter (fun y => blw (paR r) y t))) := by
        funext t
        cases hb : blw (paR r) y t with
        | true => rw [List.filter_cons_of_pos (p := fun y => blw (paR r) y t) hb, if_pos rfl]; rfl
        | false => rw [List.filter_cons_of_neg (by simp [hb]), if_neg (by decide)]
      rw [← e]; exact d2
theorem c_tellAll (hA1 : AT w1 x m r0 r) {mv : Nat → Int32} (hR : RkS w1 x (chF r f) w1 (ordS r (sS r 39) (sS r 39) p f).1 mv) (hd : Nat → Int64) (A : Wd → Prop) (hW : ∀ y, 1 ≤ y → y ≤ nE r → rkd r p f y = true → wJ w1 2 10 (eA w1 x y) = hd y) : ∀ (l : List Nat), (∀ y ∈ l, y ∈ chF r f) → l.Nodup → ∀ (a : Nat) (w : Wd) (S : Nat → Int64), Ft w1 w → AT w x m r0 (shS r S) → Lk (wR w1 9 12) a (l.map (wA w1 x)) →
    (∀ w', Ft w1 w' → AT w' x m r0 (shS r (fun t => if whR r t ∈ l ∧ inR r p f (whR r t) then sumF hd (S t) (lvs (fiR r) t) else S t)) → A w') → jX7_distribute_109 X A a w := by
  have hI := hA1.2.2.2.2
  have hN := hI.1.2.1.2
  have H := HT_of hI.1 hI.2.2.2.1
  obtain ⟨hin, hlen⟩ := (ordS_ok (r := r) (dy := sS r 39) (as := sS r 39) (p := p) (f := f) hI).in hI
  intro l
  induction l with
  | nil =>
    intro _ _ a w S hF hA hk h
    refine tX7_distribute_109 X _ _ w ⟨fun _ => h w hF ?_, fun z => absurd hk z⟩
    have : (fun t => if whR r t ∈ ([] : List Nat) ∧ inR r p f (whR r t) then sumF hd (S t) (lvs (fiR r) t) else S t) = S := by
      funext t; rw [if_neg (fun q => by cases q.1)]
    rw [this]; exact hA
  | cons k l ih =>
    intro hl nd a w S hF hA hk h
    obtain ⟨rfl, hn, hk⟩ := Lk_cons hk
    obtain ⟨n1, n2⟩ := List.nodup_cons.mp nd
    have hkc := hl k List.mem_cons_self
    obtain ⟨k10, k98, k0, k1, k2, k3, k4⟩ := ch_w hA1 hkc
    have hl' : ∀ z ∈ l, z ∈ chF r f := fun z hz => hl z (List.mem_cons_of_mem _ hz)
    have hWk := hA1.2.2.2.1.2.2.1 k k1 k2 k3
    refine tX7_distribute_109 X _ _ w ⟨fun z => absurd z hn, fun _ => ?_⟩
    rw [hF.1.1, hF.1.2.1, hF.1.2.2.2.1, (hR k hkc).1, idx_m1 (by omega)]
    refine ⟨k10, fun z => ih hl' n2 _ w S hF hA hk (fun w' c1 c2 => h w' c1 ?_), fun z => ?_⟩
    · have : (fun t => if whR r t ∈ l ∧ inR r p f (whR r t) then sumF hd (S t) (lvs (fiR r) t) else S t) = (fun t => if whR r t ∈ k :: l ∧ inR r p f (whR r t) then sumF hd (S t) (lvs (fiR r) t) else S t) := by
        funext t
        by_cases ht : whR r t = k
        · have h1 : ¬ inR r p f (whR r t) := by rw [ht]; exact z
          rw [if_neg (fun q => h1 q.2), if_neg (fun q => h1 q.2)]
        · have : (whR r t ∈ k :: l) ↔ whR r t ∈ l := ⟨fun q => (List.mem_cons.mp q).resolve_left ht, fun q => List.mem_cons_of_mem _ q⟩
          by_cases hc : whR r t ∈ l ∧ inR r p f (whR r t)
          · rw [if_pos hc, if_pos ⟨this.mpr hc.1, hc.2⟩]
          · rw [if_neg hc, if_neg (fun q => hc ⟨this.mp q.1, q.2⟩)]
      rw [← this]; exact c2
    · have hkO : inR r p f k := Classical.byContradiction z
      refine oX7_tellShares X _ _ w ?_
      rw [hF.1.1, hF.1.2.1]
      refine ⟨k10, c_tellLeaves (p := p) (f := f) hI hd _ hW (lvs (fiR r) k) (lv_ch hI hkO) _ w S hF hA hWk.2.2.2.2.1 (fun w' c1 c2 => ?_)⟩
      rw [c1.1.1, c1.1.2.1]
      refine ⟨k10, ih hl' n2 _ w' _ c1 c2 hk (fun w'' d1 d2 => h w'' d1 ?_)⟩
      rw [shS_eq (T := fun t => if whR r t ∈ k :: l ∧ inR r p f (whR r t) then sumF hd (S t) (lvs (fiR r) t) else S t)] at d2
      · exact d2
      · intro t t1 t2
        show (if whR r t ∈ l ∧ inR r p f (whR r t) then sumF hd (sumF hd (S t) ((lvs (fiR r) k).filter (fun y => blw (paR r) y t))) (lvs (fiR r) t) else sumF hd (S t) ((lvs (fiR r) k).filter (fun y => blw (paR r) y t))) = _
        by_cases ht : whR r t = k
        · have hfl : (lvs (fiR r) k).filter (fun y => blw (paR r) y t) = lvs (fiR r) t := lvs_filter H t1 t2 k k1 k2 (by rw [← ht]; exact blw_root hI.2.2.2.1 t t1 t2)
          rw [if_neg (fun q => n1 (by rw [← ht]; exact q.1)), hfl, if_pos ⟨by rw [ht]; exact List.mem_cons_self, by rw [ht]; exact hkO⟩]
        · have hfl : (lvs (fiR r) k).filter (fun y => blw (paR r) y t) = [] := by
            rw [List.filter_eq_nil_iff]
            intro y hy hb
            have hy' := lv_wh hI k1 k2 k3 hy
            have hwt : blw (paR r) y (whR r t) = true := blw_trans _ _ _ hb (blw_root hI.2.2.2.1 t t1 t2)
            obtain ⟨q1, q2, q3⟩ := whole_of_r hI t1 t2
            exact ht ((blw_un hI.2.2.2.1 q3 y hy'.2.1 hy'.2.2.1 hwt).symm.trans hy'.1)
          have hm : (whR r t ∈ k :: l) ↔ whR r t ∈ l := ⟨fun q => (List.mem_cons.mp q).resolve_left ht, fun q => List.mem_cons_of_mem _ q⟩
          rw [hfl]
          by_cases hc : whR r t ∈ l ∧ inR r p f (whR r t)
          · rw [if_pos hc, if_pos ⟨hm.mpr hc.1, hc.2⟩]; rfl
          · rw [if_neg hc, if_neg (fun q => hc ⟨hm.mp q.1, q.2⟩)]; rfl
theorem c_distribute {pA : Nat → Nat} {w0 : Wd} (hA : AT w0 x m r0 r) (hP : PF w0 x r pA) (hp : p < 60) (hf : f < nF r) (hsz : p < ix r 0 f) (hq : SQ w0 x r p f rq mo sq) (hL : LiF r (sS r 39) (sS r 39) p w0 x (chF r f) w0) {mv : Nat → Int32} (hR : RkS w0 x (chF r f) w0 (ordS r (sS r 39) (sS r 39) p f).1 mv) (left : Int64) (h71 : wJ w0 7 1 sq = left) (A : Wd → Prop) (h : ∀ w', Fx w0 w' → AT w' x m r0 (shS r (fun t => if inR r p f (whR r t) then sumF (hasA r p f left) (rJ r 62 t) (lvs (fiR r) t) else rJ r 62 t)) → HaF r p f w0 x w' (dS r p f) (hasA r p f left) → wJ w' 7 1 sq = (payA r p f left).2 → A w') : Ct X bX7_distribute mX7_distribute [vR sq] w0 (qV A) := by
  have hI := hA.2.2.2.2
  have hFf := hA.2.2.2.1.1 f hf
  have hch := hFf.2.2.2.2.1
  refine oX7_distribute X _ _ w0 ?_
  rw [hq.2.2, hq.1.1.2.1]
  refine ⟨hq.2.1, hq.1.1.1, hFf.1, c_allReady hA hp hq hR A (chF r f) (fun _ z => z) (chN_nodup r f _) _ w0 (Fw.rf _) hch (fun y y1 y2 y3 y4 => ?_) (fun w1 f1 h1 s1 => ?_)⟩
  · exact absurd (inR_k hI (rkd_iff.mp y3).2).2.2.2.2.2.1 y4
  refine tX7_distribute_11 X _ _ _ w1 ⟨fun _ => ?_, fun z => absurd rfl z⟩
  rw [f1.1]
  refine ⟨hq.2.1, oX7_payPlaces X _ _ 1 w1 ?_⟩
  rw [f1.1, f1.2.1, hq.2.2, hq.1.1.2.1]
  refine ⟨hq.2.1, hq.1.1.1, hFf.1, c_payLoop hA hq hL (dS r p f) true _ (chF r f) (fun _ z => z) _ w1 (fun _ => 0, left) f1 h1 (by rw [s1]; exact h71) hch (fun w2 f2 h2 s2 => ?_)⟩
  rw [f2.1]
  refine ⟨hq.2.1, oX7_payPlaces X _ _ 0 w2 ?_⟩
  rw [f2.1, f2.2.1, hq.2.2, hq.1.1.2.1]
  refine ⟨hq.2.1, hq.1.1.1, hFf.1, c_payLoop hA hq hL (dS r p f) false _ (chF r f) (fun _ z => z) _ w2 _ f2 h2 s2 hch (fun w3 f3 h3 s3 => ?_)⟩
  have epay : ((chF r f).filter (plQ r (sS r 39) (sS r 39) p false)).foldl (payS r (dS r p f)) (((chF r f).filter (plQ r (sS r 39) (sS r 39) p true)).foldl (payS r (dS r p f)) (fun _ => 0, left)) = payA r p f left := by
    unfold payA PLs; rw [List.foldl_append, plQ_t, plQ_f]
  rw [epay] at h3 s3
  rw [f3.1, f3.2.1, hq.2.2, hq.1.1.2.2.2.2]
  refine ⟨hq.2.1, hq.1.1.1, ?_⟩
  -- the posts
  have posts : ∀ (l : List Nat), (∀ q ∈ l, q ∈ pos r) → ∀ (a : Nat) (w : Wd) (hh : Nat → Int64), Fw w0 w → HaF r p f w0 x w (dS r p f) hh → wJ w 7 1 sq = (payA r p f left).2 → Lk (wR w0 5 6) a (l.map pA) → (∀ w', Fw w0 w' → HaF r p f w0 x w' (dS r p f) (l.foldl (gwI r (dS r p f) p f) hh) → wJ w' 7 1 sq = (payA r p f left).2 → jX7_distribute_54 X A sq 0 w') → jX7_distribute_54 X A sq a w := by
    intro l
    induction l with
    | nil =>
      intro _ a w hh hF hf' h7 hk h'
      have : a = 0 := hk
      subst this
      exact h' w hF hf' h7
    | cons q l ih =>
      intro hl a w hh hF hf' h7 hk h'
      obtain ⟨rfl, hn, hk⟩ := Lk_cons hk
      have hm := hl q List.mem_cons_self
      have hpp := hP.2 q hm
      have hl' : ∀ z ∈ l, z ∈ pos r := fun z hz => hl z (List.mem_cons_of_mem _ hz)
      rw [List.foldl_cons] at h'
      have hc := c_countsOn (X := X) hA hP hp hf hsz (fw_Sc hF) hq.1.2.1 hq.1.2.2.1 hq.1.2.2.2 hm
      refine tX7_distribute_54 X _ _ _ w ⟨fun z => absurd z hn, fun _ => ?_⟩
      rw [hF.1, hF.2.1, hF.2.2.2.1, hq.2.2, hq.1.1.2.1, hq.1.1.2.2.1, hq.1.1.2.2.2.1]
      refine ⟨hq.2.1, hq.1.1.1, hpp.1.1, hc.I ?_⟩
      rintro v w4 ⟨rfl, rfl⟩
      rw [hF.1, hF.2.1]
      refine ⟨fun z => ⟨hpp.1.1, ?_⟩, fun z => ?_⟩
      · rw [bI_0] at z
        have e : gwI r (dS r p f) p f hh q = hh := by unfold gwI; rw [if_neg (by rw [z]; decide)]
        rw [e] at h'
        exact ih hl' _ w4 hh hF hf' h7 hk h'
      · rw [bI_n] at z
        have e : gwI r (dS r p f) p f hh q = gwS r (dS r p f) hh q := by unfold gwI; rw [if_pos z]
        rw [e] at h'
        refine (c_giveWay hA hP hm z (fw_Sc hF) hf').V ?_
        rintro w5 ⟨g1, g2⟩
        have hF5 := hF.tr (fh_Fw g1)
        rw [hF5.1, hF5.2.1]
        exact ⟨hpp.1.1, ih hl' _ w5 _ hF5 g2 (by rw [g1.2.2.2.2.2.2.2 7 1 (by omega)]; exact h7) hk h'⟩
  refine posts (pos r) (fun _ z => z) _ w3 _ f3 h3 s3 hP.1 (fun w6 f6 h6 s6 => ?_)
  refine tX7_distribute_54 X _ _ _ w6 ⟨fun _ => ?_, fun z => absurd rfl z⟩
  rw [f6.1, f6.2.1, hq.2.2, hq.1.1.2.1]
  have hA6 := AT_Sc (fw_Sc f6) hA
  have ex := (fw_Sc f6).e x
  have hR6 : RkS w6 x (chF r f) w6 (ordS r (sS r 39) (sS r 39) p f).1 mv := fun y hy => by rw [ex.2.1, f6.2.2.2.1]; exact hR y hy
  have hA6' : AT w6 x m r0 (shS r (rJ r 62)) := by rw [shS_id]; exact hA6
  refine ⟨hq.2.1, hq.1.1.1, hFf.1, c_tellAll hA6 hR6 (hasA r p f left) A (fun y y1 y2 y3 => by rw [ex.1]; exact (h6 y y1 y2 y3).2) (chF r f) (fun _ z => z) (chN_nodup r f _) _ w6 (rJ r 62) (Ft.rf _) hA6' (by rw [f6.2.1, ex.2.1]; exact hch) (fun w7 f7 a7 => ?_)⟩
  refine h w7 ((fw_Fx f6).tr f7.1) ?_ (fun y y1 y2 y3 => ?_) (by rw [f7.2 7 1 (by omega)]; exact s6)
  · rw [shS_eq (T := fun t => if inR r p f (whR r t) then sumF (hasA r p f left) (rJ r 62 t) (lvs (fiR r) t) else rJ r 62 t)] at a7
    · exact a7
    · intro t t1 t2
      by_cases hk : inR r p f (whR r t)
      · rw [if_pos ⟨(inR_k hI hk).2.2.2.2.2.1, hk⟩, if_pos hk]
      · rw [if_neg (fun q => hk q.2), if_neg hk]
  · have := h6 y y1 y2 y3
    rw [f7.2 2 9 (by omega), f7.2 2 10 (by omega)]
    exact this
end N1
