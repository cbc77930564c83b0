/-! ===== how the class's world shows the reference's state ===== -/
/-- a chain of addresses by a map -/
def Lk (nx : Nat → Nat) (a : Nat) (l : List Nat) : Prop := match l with
  | [] => a = 0
  | b :: t => a = b ∧ b ≠ 0 ∧ Lk nx (nx b) t
def fA (w : Wd) (x f : Nat) : Nat := xR w (wR w 10 0 x) f
def eA (w : Wd) (x e : Nat) : Nat := xR w (wR w 10 1 x) (e - 1)
def wA (w : Wd) (x k : Nat) : Nat := wR w 2 1 (eA w x k)
/-- an act, or null where the known day is -1 -/
def Ac (w : Wd) (a : Nat) (d k : Int32) : Prop := (k = -1 → a = 0) ∧ (k ≠ -1 → wK w a = 1 ∧ wI w 0 0 a = d ∧ wI w 0 1 a = k)
/-- the bit of a parcel, by the shift that fills with zeros -/
def ubit (b : Int64) (p : Nat) : Bool := !(decide (((b.toUInt64 >>> ((nI p).toInt64.toUInt64 &&& Int64.toUInt64 63)).toInt64) &&& 1 = 0))
/-- the wholes of a folio, by date, then by number -/
def insW (r : Rs) (e : Nat) (l : List Nat) : List Nat := l.takeWhile (fun y => decide (rI r 13 y ≤ rI r 13 e)) ++ e :: l.dropWhile (fun y => decide (rI r 13 y ≤ rI r 13 e))
def chN (r : Rs) (f : Nat) : Nat → List Nat
  | 0 => []
  | n + 1 => if paR r (n + 1) = 0 ∧ foR r (n + 1) = f then insW r (n + 1) (chN r f n) else chN r f n
def chF (r : Rs) (f : Nat) : List Nat := chN r f (nE r)
def CS (w : Wd) (x : Nat) (r : Rs) : Prop :=
  (wK w x = 11 ∧ wK w (wR w 10 0 x) = 18 ∧ wL w (wR w 10 0 x) = 40 ∧ wK w (wR w 10 1 x) = 17 ∧ wL w (wR w 10 1 x) = 300 ∧ wK w (wR w 10 2 x) = 2 ∧ wK w (wR w 10 8 x) = 5) ∧
  (wI w 10 3 x = sS r 2 ∧ wI w 10 4 x = sS r 30 ∧ wI w 10 5 x = sS r 38 ∧ wI w 4 0 (wR w 10 8 x) = sS r 39 ∧ wI w 4 1 (wR w 10 8 x) = sS r 39 ∧ wI w 10 9 x = dnow r ∧ wI w 10 10 x = sS r 42 ∧ wJ w 10 11 x = sO r ∧ wI w 10 12 x = sS r 43 ∧ wI w 10 13 x = sS r 41) ∧
  (wK w (wR w 1 0 (wR w 10 2 x)) = 13 ∧ wL w (wR w 1 0 (wR w 10 2 x)) = 101 ∧ wI w 1 2 (wR w 10 2 x) = sS r 44 ∧ wI w 1 1 (wR w 10 2 x) = sS r 52 ∧ ∃ n, sS r 52 = nI n ∧ n ≤ 101 ∧ ∀ i, i < n → xI w (wR w 1 0 (wR w 10 2 x)) i = rI r 51 i)
def CF (w : Wd) (x : Nat) (r : Rs) : Prop := ∀ f, f < nF r → wK w (fA w x f) = 4 ∧ wI w 3 0 (fA w x f) = nI f ∧ wI w 3 1 (fA w x f) = rI r 0 f ∧ (∀ p, p < 60 → ubit (wJ w 3 2 (fA w x f)) p = decide (¬ rI r 1 (60 * f + p) = 0)) ∧
  Lk (wR w 9 12) (wR w 3 3 (fA w x f)) ((chF r f).map (wA w x)) ∧ Lk (wR w 9 11) (wR w 3 4 (fA w x f)) ((chF r f).reverse.map (wA w x))
/-- the releases of an entry -/
def CL (w : Wd) (a : Nat) (r : Rs) (e : Nat) : Prop := (wR w 2 6 a = 0 ∧ ∀ p, p < 60 → rI r 29 (60 * e + p) = -1) ∨
  (wR w 2 6 a ≠ 0 ∧ wK w (wR w 2 6 a) = 16 ∧ wL w (wR w 2 6 a) = ix r 0 (foR r e) ∧ ∀ p, p < 60 → (p < ix r 0 (foR r e) → Ac w (xR w (wR w 2 6 a) p) (rI r 28 (60 * e + p)) (rI r 29 (60 * e + p))) ∧ (¬ p < ix r 0 (foR r e) → rI r 29 (60 * e + p) = -1))
def CE (w : Wd) (x : Nat) (r : Rs) : Prop := ∀ e, 1 ≤ e → e ≤ nE r →
  (wK w (eA w x e) = 3 ∧ wI w 2 0 (eA w x e) = nI e ∧ wR w 2 1 (eA w x e) = wA w x (whR r e) ∧ wR w 2 2 (eA w x e) = (if paR r e = 0 then 0 else eA w x (paR r e))) ∧
  (wI w 2 3 (eA w x e) = rI r 7 e ∧ wJ w 2 4 (eA w x e) = rJ r 8 e ∧ wI w 2 5 (eA w x e) = bI (decide (fiR r e ≠ 0)) ∧ wJ w 2 11 (eA w x e) = rJ r 62 e ∧ wJ w 2 12 (eA w x e) = rJ r 63 e) ∧ CL w (eA w x e) r e
/-- a whole -/
def CW (w : Wd) (x : Nat) (r : Rs) : Prop := ∀ k, 1 ≤ k → k ≤ nE r → paR r k = 0 →
  (wK w (wA w x k) = 10 ∧ wR w 9 0 (wA w x k) = fA w x (foR r k) ∧ wJ w 9 1 (wA w x k) = rJ r 10 k ∧ wR w 9 8 (wA w x k) = eA w x k ∧ wI w 9 5 (wA w x k) = bI (decide (rI r 19 k = 0))) ∧
  (rI r 14 k ≠ -1 ∧ Ac w (wR w 9 2 (wA w x k)) (rI r 13 k) (rI r 14 k) ∧ Ac w (wR w 9 4 (wA w x k)) (rI r 15 k) (rI r 16 k)) ∧
  (wK w (wR w 9 3 (wA w x k)) = 9 ∧ wI w 8 0 (wR w 9 3 (wA w x k)) = rI r 3 k ∧ wI w 8 1 (wR w 9 3 (wA w x k)) = rI r 11 k ∧ wJ w 8 2 (wR w 9 3 (wA w x k)) = rJ r 12 k ∧ wI w 8 3 (wR w 9 3 (wA w x k)) = rI r 17 k ∧ wI w 8 4 (wR w 9 3 (wA w x k)) = rI r 21 k ∧ Ac w (wR w 8 5 (wR w 9 3 (wA w x k))) (rI r 22 k) (rI r 23 k) ∧ (rI r 23 k ≠ -1 → wI w 8 6 (wR w 9 3 (wA w x k)) = rI r 20 k) ∧ (rI r 3 k = 4 → wI w 8 7 (wR w 9 3 (wA w x k)) = rI r 18 k)) ∧
  (wR w 9 6 (wA w x k) = (if ix r 24 k + ix r 25 k = 0 then 0 else wA w x (ix r 24 k + ix r 25 k)) ∧ (rI r 3 k = 6 → (ix r 24 k = 0 → wR w 9 7 (wA w x k) = 0) ∧ (ix r 24 k ≠ 0 → rI r 27 (ix r 24 k) ≠ -1 ∧ Ac w (wR w 9 7 (wA w x k)) (rI r 26 (ix r 24 k)) (rI r 27 (ix r 24 k))))) ∧
  Lk (wR w 2 8) (wR w 9 9 (wA w x k)) ((lvs (fiR r) k).map (eA w x)) ∧ Lk (wR w 2 7) (wR w 9 10 (wA w x k)) ((lvs (fiR r) k).reverse.map (eA w x))
/-- the posts, pl their addresses -/
def CP (w : Wd) (x : Nat) (r : Rs) (pl : List Nat) : Prop := Lk (wR w 5 6) (wR w 10 6 x) pl ∧ pl.length = nP r ∧ wR w 10 7 x = pl.getLast?.getD 0 ∧
  ∀ q, q < nP r → wK w (pl.getD q 0) = 6 ∧ wI w 5 0 (pl.getD q 0) = nI (q + 1) ∧ wR w 5 1 (pl.getD q 0) = eA w x (ix r 31 (q + 1)) ∧ wR w 5 2 (pl.getD q 0) = eA w x (ix r 32 (q + 1)) ∧ wJ w 5 3 (pl.getD q 0) = rJ r 33 (q + 1) ∧
    rI r 35 (q + 1) ≠ -1 ∧ Ac w (wR w 5 4 (pl.getD q 0)) (rI r 34 (q + 1)) (rI r 35 (q + 1)) ∧ Ac w (wR w 5 5 (pl.getD q 0)) (rI r 36 (q + 1)) (rI r 37 (q + 1))
def CR (w : Wd) (x : Nat) (r : Rs) : Prop := CS w x r ∧ CF w x r ∧ CE w x r ∧ CW w x r ∧ ∃ pl, CP w x r pl
/-- the rest of the reference's invariant: posts, days, cautions -/
def RIp (r : Rs) : Prop := ∀ q, 1 ≤ q → q ≤ nP r → rI r 31 q = nI (ix r 31 q) ∧ 1 ≤ ix r 31 q ∧ ix r 31 q ≤ nE r ∧ rI r 32 q = nI (ix r 32 q) ∧ 1 ≤ ix r 32 q ∧ ix r 32 q ≤ nE r
/-- a post is between entries of one folio, no caution among them -/
def RIz (r : Rs) : Prop := ∀ q, 1 ≤ q → q ≤ nP r → foR r (ix r 31 q) = foR r (ix r 32 q) ∧ rI r 3 (ix r 31 q) ≠ 6 ∧ rI r 3 (ix r 32 q) ≠ 6 ∧ 0 ≤ rJ r 33 q
def RId (r : Rs) : Prop := 0 ≤ sS r 39 ∧ sS r 39 ≤ 36500 ∧ (sS r 40 = -1 ∨ (0 ≤ sS r 40 ∧ sS r 40 ≤ sS r 39)) ∧ 0 ≤ sS r 42 ∧ (∀ k, 1 ≤ k → k ≤ nE r → paR r k = 0 → 0 ≤ rI r 17 k ∧ rI r 17 k ≤ sS r 39) ∧ RIz r
def RI (r : Rs) : Prop := RIc r ∧ RIf r ∧ RIb r ∧ RIE r ∧ RIp r ∧ RId r
/-- the two objects beside each other -/
def SIM (w : Wd) (x m : Nat) : Prop := Sh w m ∧ ∃ r, Wm w m r w ∧ RI r ∧ CR w x r ∧ (∀ k, k < 65 → kA k ≠ 0 → wR w 11 k m ≠ wR w 1 0 (wR w 10 2 x))
/-! ===== the class's small reads ===== -/
def actB (w : Wd) (a mo : Nat) : Bool := !(decide (a = 0)) && !(decide (wI w 4 0 mo < wI w 0 0 a)) && !(decide (wI w 4 1 mo < wI w 0 1 a))
theorem Ac.B {w : Wd} {a mo : Nat} {d k : Int32} (h : Ac w a d k) (ha : k ≠ -1 → a ≠ 0) : actB w a mo = cntB (wI w 4 0 mo) (wI w 4 1 mo) d k := by
  by_cases hk : k = -1
  · rw [h.1 hk]; simp [actB, cntB, hk]
  · obtain ⟨h1, h2, h3⟩ := h.2 hk
    simp [actB, cntB, hk, ha hk, h2, h3]
section C0
variable {X : Cx}
theorem c_happened (w : Wd) (a mo : Nat) (ha : a = 0 ∨ wK w a = 1) (hm : wK w mo = 5) : Ct X bX0_happened mX0_happened [vR a, vR mo] w (qI fun v w' => v = bI (actB w a mo) ∧ w' = w) := by
  refine oX0_happened X _ a mo w ⟨fun h => ?_, fun h => ⟨ha.resolve_left h, hm, fun h2 => ?_, fun h2 => ⟨fun h3 => ?_, fun h3 => ?_⟩⟩⟩
  · simp [actB, h, bI]
  · simp [actB, h2, bI]
  · simp [actB, h3, bI]
  · simp [actB, h, h2, h3, bI]
theorem c_livesAt (w : Wd) (b mo : Nat) (hb : wK w b = 10) (h2 : wR w 9 2 b = 0 ∨ wK w (wR w 9 2 b) = 1) (h4 : wR w 9 4 b = 0 ∨ wK w (wR w 9 4 b) = 1) (hm : wK w mo = 5) : Ct X bX9_livesAt mX9_livesAt [vR b, vR mo] w (qI fun v w' => v = bI (actB w (wR w 9 2 b) mo && !(actB w (wR w 9 4 b) mo)) ∧ w' = w) := by
  refine oX9_livesAt X _ b mo w ⟨hb, (c_happened w _ mo h2 hm).I ?_⟩
  rintro v w1 ⟨rfl, rfl⟩
  refine ⟨fun h => ?_, fun h => ⟨hb, (c_happened w1 _ mo h4 hm).I ?_⟩⟩
  · rw [bI_0] at h; simp [h, bI]
  · rintro v w2 ⟨rfl, rfl⟩
    rw [bI_n] at h
    refine ⟨fun h3 => ?_, fun h3 => ?_⟩
    · rw [bI_n] at h3; simp [h3, bI]
    · rw [bI_0] at h3; simp [h, h3, bI]
theorem c_number (w : Wd) (b : Nat) (hb : wK w b = 10) (hr : wK w (wR w 9 8 b) = 3) (h0 : wR w 9 8 b ≠ 0) : Ct X bX9_number mX9_number [vR b] w (qI fun v w' => v = wI w 2 0 (wR w 9 8 b) ∧ w' = w) := by
  refine oX9_number X _ b w ⟨hb, fun _ => ⟨hr, rfl, rfl⟩, fun h => absurd h h0⟩
theorem c_hasParcel (w : Wd) (a : Nat) (p : Int32) (ha : wK w a = 4) : Ct X bX3_hasParcel mX3_hasParcel [vR a, vI p] w (qI fun v w' => v = bI (!(decide (p < 0)) && !(decide (wI w 3 1 a ≤ p))) ∧ w' = w) := by
  refine oX3_hasParcel X _ a p w ⟨fun h => ?_, fun h => ⟨ha, fun h2 => ?_, fun h2 => ?_⟩⟩
  · simp [h, bI]
  · simp [h2, bI]
  · simp [h, h2, bI]
theorem c_isTorn (w : Wd) (a p : Nat) (ha : wK w a = 4) : Ct X bX3_isTorn mX3_isTorn [vR a, vI (nI p)] w (qI fun v w' => v = bI (ubit (wJ w 3 2 a) p) ∧ w' = w) := by
  refine oX3_isTorn X _ a (nI p) w ⟨ha, fun h => ?_, fun h => ?_⟩
  · rw [lg_eq] at h; simp [ubit, h, bI]
  · rw [lg_eq] at h; simp [ubit, h, bI]
theorem eA_inj {w : Wd} {x : Nat} {r : Rs} (hc : RIc r) (hE : CE w x r) {e e' : Nat} (h1 : 1 ≤ e) (h2 : e ≤ nE r) (h3 : 1 ≤ e') (h4 : e' ≤ nE r) (h : eA w x e = eA w x e') : e = e' := by
  have a := (hE e h1 h2).1.2.1
  have b := (hE e' h3 h4).1.2.1
  rw [h, b] at a
  have hN := hc.2.1.2
  exact ((nI_eq (by omega) (by omega)).mp a).symm
theorem c_isBelow (w : Wd) (x : Nat) (r : Rs) (hc : RIc r) (hE : RIE r) (hC : CE w x r) (h0 : ∀ e, 1 ≤ e → e ≤ nE r → eA w x e ≠ 0) (t : Nat) (ht1 : 1 ≤ t) (ht2 : t ≤ nE r) : ∀ e, 1 ≤ e → e ≤ nE r → Ct X bX2_isBelow mX2_isBelow [vR (eA w x e), vR (eA w x t)] w (qI fun v w' => v = bI (blw (paR r) e t) ∧ w' = w) := by
  have key : ∀ e, e ≤ nE r → jX2_isBelow_2 X (fun v w' => v = bI (blw (paR r) e t) ∧ w' = w) (eA w x t) (if e = 0 then 0 else eA w x e) w := by
    intro e
    induction e using Nat.strongRecOn with
    | ind e ih =>
      intro h2
      refine tX2_isBelow_2 X _ _ _ w ⟨fun h => ?_, fun h => ⟨fun h3 => ?_, fun h3 => ?_⟩⟩
      · by_cases he : e = 0
        · subst he; rw [blw_0]; exact ⟨rfl, rfl⟩
        · rw [if_neg he] at h; exact absurd h (h0 e (by omega) h2)
      · have he : e ≠ 0 := fun q => h (by rw [if_pos q])
        rw [if_neg he] at h3 ⊢
        have hI := (hE e (by omega) h2).2.2.1
        refine ⟨(hC e (by omega) h2).1.1, ?_⟩
        rw [(hC e (by omega) h2).1.2.2.2, blw_eq he hI.1, if_neg (fun q => h3 (by rw [q]))]
        exact ih (paR r e) hI.1 (Nat.le_trans (Nat.le_of_lt hI.1) h2)
      · have he : e ≠ 0 := fun q => h (by rw [if_pos q])
        rw [if_neg he] at h3
        have hI := (hE e (by omega) h2).2.2.1
        have := eA_inj hc hC (by omega) h2 ht1 ht2 h3
        subst this
        rw [blw_self he hI.1]
        exact ⟨rfl, rfl⟩
  intro e h1 h2
  have h := key e h2
  rw [if_neg (by omega)] at h
  exact oX2_isBelow X _ _ _ w h
end C0
