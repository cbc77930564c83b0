/-! ===== what stays the same ===== -/
def scS (k : Nat) : Bool := k == 45 || k == 46 || k == 48 || k == 57 || k == 58
def scI (k : Nat) : Bool := k == 47 || k == 50 || k == 53 || k == 54 || k == 55 || k == 56 || k == 61
def scJ (k : Nat) : Bool := k == 49 || k == 59 || k == 60
/-- the reference's lasting state is the same -/
def Pe (r r' : Rs) : Prop := (∀ k, scS k = false → sS r' k = sS r k) ∧ sO r' = sO r ∧ (∀ k, scI k = false → rI r' k = rI r k) ∧ (∀ k, scJ k = false → rJ r' k = rJ r k)
theorem Pe.rf (r : Rs) : Pe r r := ⟨fun _ _ => rfl, rfl, fun _ _ => rfl, fun _ _ => rfl⟩
theorem Pe.tr {a b c : Rs} (h1 : Pe a b) (h2 : Pe b c) : Pe a c := ⟨fun k hk => (h2.1 k hk).trans (h1.1 k hk), h2.2.1.trans h1.2.1, fun k hk => (h2.2.2.1 k hk).trans (h1.2.2.1 k hk), fun k hk => (h2.2.2.2 k hk).trans (h1.2.2.2 k hk)⟩
theorem Pe.uS {r r' : Rs} (h : Pe r r') (k : Nat) (v : Int32) (hk : scS k = true) : Pe r (uS r' k v) := ⟨fun j hj => by rw [(R_uS r' k v).2.2.2, if_neg (fun q => by subst q; rw [hk] at hj; cases hj)]; exact h.1 j hj, h.2.1, h.2.2.1, h.2.2.2⟩
theorem Pe.uI {r r' : Rs} (h : Pe r r') (k i : Nat) (v : Int32) (hk : scI k = true) : Pe r (uI r' k i v) := ⟨h.1, h.2.1, fun j hj => by funext n; rw [(R_uI r' k i v).2.2.2, if_neg (fun q => by rw [q.1, hk] at hj; cases hj)]; exact congrFun (h.2.2.1 j hj) n, h.2.2.2⟩
theorem Pe.uJ {r r' : Rs} (h : Pe r r') (k i : Nat) (v : Int64) (hk : scJ k = true) : Pe r (uJ r' k i v) := ⟨h.1, h.2.1, h.2.2.1, fun j hj => by funext n; rw [(R_uJ r' k i v).2.2.2, if_neg (fun q => by rw [q.1, hk] at hj; cases hj)]; exact congrFun (h.2.2.2 j hj) n⟩
theorem Pe.sL {r : Rs} (e : Nat) : Pe r (setL r e) := by
  unfold setL
  have key : ∀ (l : List Nat) (r' : Rs), Pe r r' → Pe r (addL r' l) := by
    intro l
    induction l with
    | nil => intro r' h; exact h
    | cons y t ih => intro r' h; exact ih _ ((h.uI 47 _ _ rfl).uS 48 _ rfl)
  exact key _ _ ((Pe.rf r).uS 48 0 rfl)
/-- rows that last, and the three counts, are the same -/
def Sr (r r' : Rs) : Prop := (∀ k, scI k = false → rI r' k = rI r k) ∧ (∀ k, scJ k = false → rJ r' k = rJ r k) ∧ sS r' 2 = sS r 2 ∧ sS r' 30 = sS r 30 ∧ sS r' 38 = sS r 38
theorem Pe.Sr {r r' : Rs} (h : Pe r r') : Sr r r' := ⟨h.2.2.1, h.2.2.2, h.1 2 rfl, h.1 30 rfl, h.1 38 rfl⟩
theorem Sr.uS {r : Rs} (k : Nat) (v : Int32) (h1 : k ≠ 2) (h2 : k ≠ 30) (h3 : k ≠ 38) : Sr r (uS r k v) := ⟨fun _ _ => rfl, fun _ _ => rfl, by rw [(R_uS r k v).2.2.2, if_neg (fun q => h1 q.symm)], by rw [(R_uS r k v).2.2.2, if_neg (fun q => h2 q.symm)], by rw [(R_uS r k v).2.2.2, if_neg (fun q => h3 q.symm)]⟩
theorem Sr.rf (r : Rs) : Sr r r := ⟨fun _ _ => rfl, fun _ _ => rfl, rfl, rfl, rfl⟩
theorem Sr.tr {a b c : Rs} (h1 : Sr a b) (h2 : Sr b c) : Sr a c := ⟨fun k hk => (h2.1 k hk).trans (h1.1 k hk), fun k hk => (h2.2.1 k hk).trans (h1.2.1 k hk), h2.2.2.1.trans h1.2.2.1, h2.2.2.2.1.trans h1.2.2.2.1, h2.2.2.2.2.trans h1.2.2.2.2⟩
/-- the class's objects, RankBook's own numbers apart, are the same -/
def Sw (w w' : Wd) : Prop := wK w' = wK w ∧ wR w' = wR w ∧ wL w' = wL w ∧ xR w' = xR w ∧ (∀ c, c < 10 → wI w' c = wI w c) ∧ (∀ c, c < 10 → wJ w' c = wJ w c)
theorem Sw.rf (w : Wd) : Sw w w := ⟨rfl, rfl, rfl, rfl, fun _ _ => rfl, fun _ _ => rfl⟩
theorem Sw.tr {a b c : Wd} (h1 : Sw a b) (h2 : Sw b c) : Sw a c := ⟨h2.1.trans h1.1, h2.2.1.trans h1.2.1, h2.2.2.1.trans h1.2.2.1, h2.2.2.2.1.trans h1.2.2.2.1, fun k hk => (h2.2.2.2.2.1 k hk).trans (h1.2.2.2.2.1 k hk), fun k hk => (h2.2.2.2.2.2 k hk).trans (h1.2.2.2.2.2 k hk)⟩
theorem Sw.sI (w : Wd) (k a : Nat) (v : Int32) : Sw w (sI w 10 k a v) := ⟨rfl, rfl, rfl, rfl, fun c hc => by funext k' a'; rw [(S_sI w 10 k a v).2.2.2.2.2.2.2, if_neg (by omega)], fun _ _ => rfl⟩
theorem Sw.sJ (w : Wd) (k a : Nat) (v : Int64) : Sw w (sJ w 10 k a v) := ⟨rfl, rfl, rfl, rfl, fun _ _ => rfl, fun c hc => by funext k' a'; rw [(S_sJ w 10 k a v).2.2.2.2.2.2.2, if_neg (by omega)]⟩
theorem Wm.Sw {w0 w : Wd} {m : Nat} {r : Rs} (h : Wm w0 m r w) : Sw w0 w := ⟨h.1.1, h.1.2.1, h.1.2.2.1, h.1.2.2.2, fun c hc => by funext k a; exact h.2.1 c k a (by omega), fun c hc => by funext k a; exact h.2.2.1 c k a (by omega)⟩
/-- terms and rows of releases are each one's own -/
def CX (w : Wd) (x : Nat) (r : Rs) : Prop := (∀ k k', 1 ≤ k → k ≤ nE r → paR r k = 0 → 1 ≤ k' → k' ≤ nE r → paR r k' = 0 → wR w 9 3 (wA w x k) = wR w 9 3 (wA w x k') → k = k') ∧
  ∀ e e', 1 ≤ e → e ≤ nE r → 1 ≤ e' → e' ≤ nE r → wR w 2 6 (eA w x e) ≠ 0 → wR w 2 6 (eA w x e) = wR w 2 6 (eA w x e') → e = e'
def C4 (w : Wd) (x : Nat) (r : Rs) : Prop := CF w x r ∧ CE w x r ∧ CW w x r ∧ (∃ pl, CP w x r pl) ∧ CX w x r
theorem Sr.ixe {r r' : Rs} (h : Sr r r') (k : Nat) (hk : scI k = false) : ix r' k = ix r k := by funext i; unfold ix; rw [h.1 k hk]
theorem Sr.n {r r' : Rs} (h : Sr r r') : nF r' = nF r ∧ nE r' = nE r ∧ nP r' = nP r := by unfold nF nE nP; rw [h.2.2.1, h.2.2.2.1, h.2.2.2.2]; exact ⟨rfl, rfl, rfl⟩
theorem Sr.ch {r r' : Rs} (h : Sr r r') (f : Nat) : chF r' f = chF r f := by
  have h1 : ∀ n, chN r' f n = chN r f n := by
    intro n
    induction n with
    | zero => rfl
    | succ n ih =>
      unfold chN insW paR foR
      rw [ih, h.ixe 6 rfl, h.ixe 4 rfl, h.1 13 rfl]
  unfold chF
  rw [h.n.2.1]
  exact h1 _
set_option maxHeartbeats 2000000 in
theorem C4_mv {w w' : Wd} {x : Nat} {r r' : Rs} (hw : Sw w w') (hr : Sr r r') (h : C4 w x r) : C4 w' x r' := by
  have i0 : ∀ c k a, c < 10 → wI w' c k a = wI w c k a := fun c k a hc => by rw [hw.2.2.2.2.1 c hc]
  have j0 : ∀ c k a, c < 10 → wJ w' c k a = wJ w c k a := fun c k a hc => by rw [hw.2.2.2.2.2 c hc]
  have n := hr.n
  have hfi : fiR r' = fiR r := by unfold fiR; rw [hr.ixe 9 rfl]
  have hpa : paR r' = paR r := by unfold paR; rw [hr.ixe 6 rfl]
  have hwh : whR r' = whR r := by unfold whR; rw [hr.ixe 5 rfl]
  have hfo : foR r' = foR r := by unfold foR; rw [hr.ixe 4 rfl]
  have e1 : eA w' x = eA w x := by funext e; unfold eA; rw [hw.2.1, hw.2.2.2.1]
  have e2 : wA w' x = wA w x := by funext e; unfold wA; rw [hw.2.1, e1]
  have e3 : fA w' x = fA w x := by funext e; unfold fA; rw [hw.2.1, hw.2.2.2.1]
  unfold C4 CF CE CW CP CX CL Ac at *
  simp only [e1, e2, e3, hw.1, hw.2.1, hw.2.2.1, hw.2.2.2.1, i0 0 _ _ (by omega), i0 2 _ _ (by omega), i0 3 _ _ (by omega), i0 5 _ _ (by omega), i0 8 _ _ (by omega), i0 9 _ _ (by omega), j0 2 _ _ (by omega), j0 3 _ _ (by omega), j0 5 _ _ (by omega), j0 8 _ _ (by omega), j0 9 _ _ (by omega), n.1, n.2.1, n.2.2, hfi, hpa, hwh, hfo, hr.ch, hr.ixe 0 rfl, hr.ixe 24 rfl, hr.ixe 25 rfl, hr.ixe 31 rfl, hr.ixe 32 rfl,
    hr.1 0 rfl, hr.1 1 rfl, hr.1 3 rfl, hr.1 7 rfl, hr.1 11 rfl, hr.1 13 rfl, hr.1 14 rfl, hr.1 15 rfl, hr.1 16 rfl, hr.1 17 rfl, hr.1 18 rfl, hr.1 19 rfl, hr.1 20 rfl, hr.1 21 rfl, hr.1 22 rfl, hr.1 23 rfl, hr.1 26 rfl, hr.1 27 rfl, hr.1 28 rfl, hr.1 29 rfl, hr.1 34 rfl, hr.1 35 rfl, hr.1 36 rfl, hr.1 37 rfl, hr.2.1 8 rfl, hr.2.1 10 rfl, hr.2.1 12 rfl, hr.2.1 33 rfl, hr.2.1 62 rfl, hr.2.1 63 rfl]
  exact h
def RI4 (r : Rs) : Prop := RIc r ∧ RIf r ∧ RIb r ∧ RIE r ∧ RIp r
theorem RI4_mv {r r' : Rs} (hr : Sr r r') (h : RI4 r) : RI4 r' := by
  have n := hr.n
  have hfi : fiR r' = fiR r := by unfold fiR; rw [hr.ixe 9 rfl]
  have hpa : paR r' = paR r := by unfold paR; rw [hr.ixe 6 rfl]
  have hwh : whR r' = whR r := by unfold whR; rw [hr.ixe 5 rfl]
  have hfo : foR r' = foR r := by unfold foR; rw [hr.ixe 4 rfl]
  unfold RI4 RIc RIf RIb RIx lsum RIE RIe RIp at *
  simp only [hfi, hpa, hwh, hfo, n.1, n.2.1, n.2.2, hr.2.2.1, hr.2.2.2.1, hr.2.2.2.2, hr.ixe 0 rfl, hr.ixe 24 rfl, hr.ixe 25 rfl, hr.ixe 31 rfl, hr.ixe 32 rfl, hr.1 0 rfl, hr.1 1 rfl, hr.1 3 rfl, hr.1 4 rfl, hr.1 5 rfl, hr.1 6 rfl, hr.1 9 rfl, hr.1 11 rfl, hr.1 18 rfl, hr.1 19 rfl, hr.1 21 rfl, hr.1 23 rfl, hr.1 24 rfl, hr.1 25 rfl, hr.1 31 rfl, hr.1 32 rfl, hr.2.1 8 rfl, hr.2.1 12 rfl, hr.2.1 62 rfl, hr.2.1 63 rfl]
  exact h
