/-! ===== the worlds' maps behind a change ===== -/
theorem S_sI (w : Wd) (c k a : Nat) (v : Int32) : wK (sI w c k a v) = wK w ∧ wJ (sI w c k a v) = wJ w ∧ wR (sI w c k a v) = wR w ∧ wL (sI w c k a v) = wL w ∧ xI (sI w c k a v) = xI w ∧ xJ (sI w c k a v) = xJ w ∧ xR (sI w c k a v) = xR w ∧ ∀ c' k' a', wI (sI w c k a v) c' k' a' = if c' = c ∧ k' = k ∧ a' = a then v else wI w c' k' a' := ⟨rfl, rfl, rfl, rfl, rfl, rfl, rfl, fun _ _ _ => rfl⟩
theorem S_sJ (w : Wd) (c k a : Nat) (v : Int64) : wK (sJ w c k a v) = wK w ∧ wI (sJ w c k a v) = wI w ∧ wR (sJ w c k a v) = wR w ∧ wL (sJ w c k a v) = wL w ∧ xI (sJ w c k a v) = xI w ∧ xJ (sJ w c k a v) = xJ w ∧ xR (sJ w c k a v) = xR w ∧ ∀ c' k' a', wJ (sJ w c k a v) c' k' a' = if c' = c ∧ k' = k ∧ a' = a then v else wJ w c' k' a' := ⟨rfl, rfl, rfl, rfl, rfl, rfl, rfl, fun _ _ _ => rfl⟩
theorem S_sR (w : Wd) (c k a : Nat) (v : Nat) : wK (sR w c k a v) = wK w ∧ wI (sR w c k a v) = wI w ∧ wJ (sR w c k a v) = wJ w ∧ wL (sR w c k a v) = wL w ∧ xI (sR w c k a v) = xI w ∧ xJ (sR w c k a v) = xJ w ∧ xR (sR w c k a v) = xR w ∧ ∀ c' k' a', wR (sR w c k a v) c' k' a' = if c' = c ∧ k' = k ∧ a' = a then v else wR w c' k' a' := ⟨rfl, rfl, rfl, rfl, rfl, rfl, rfl, fun _ _ _ => rfl⟩
theorem S_yI (w : Wd) (a i : Nat) (v : Int32) : wK (yI w a i v) = wK w ∧ wI (yI w a i v) = wI w ∧ wJ (yI w a i v) = wJ w ∧ wR (yI w a i v) = wR w ∧ wL (yI w a i v) = wL w ∧ xJ (yI w a i v) = xJ w ∧ xR (yI w a i v) = xR w ∧ ∀ a' i', xI (yI w a i v) a' i' = if a' = a ∧ i' = i then v else xI w a' i' := ⟨rfl, rfl, rfl, rfl, rfl, rfl, rfl, fun _ _ => rfl⟩
theorem S_yJ (w : Wd) (a i : Nat) (v : Int64) : wK (yJ w a i v) = wK w ∧ wI (yJ w a i v) = wI w ∧ wJ (yJ w a i v) = wJ w ∧ wR (yJ w a i v) = wR w ∧ wL (yJ w a i v) = wL w ∧ xI (yJ w a i v) = xI w ∧ xR (yJ w a i v) = xR w ∧ ∀ a' i', xJ (yJ w a i v) a' i' = if a' = a ∧ i' = i then v else xJ w a' i' := ⟨rfl, rfl, rfl, rfl, rfl, rfl, rfl, fun _ _ => rfl⟩
theorem S_yR (w : Wd) (a i : Nat) (v : Nat) : wK (yR w a i v) = wK w ∧ wI (yR w a i v) = wI w ∧ wJ (yR w a i v) = wJ w ∧ wR (yR w a i v) = wR w ∧ wL (yR w a i v) = wL w ∧ xI (yR w a i v) = xI w ∧ xJ (yR w a i v) = xJ w ∧ ∀ a' i', xR (yR w a i v) a' i' = if a' = a ∧ i' = i then v else xR w a' i' := ⟨rfl, rfl, rfl, rfl, rfl, rfl, rfl, fun _ _ => rfl⟩
theorem S_nO (w : Wd) (ci q : Nat) : wL (nO w ci q) = wL w ∧ xI (nO w ci q) = xI w ∧ xJ (nO w ci q) = xJ w ∧ xR (nO w ci q) = xR w ∧ (∀ a, wK (nO w ci q) a = if a = q then ci + 1 else wK w a) ∧ (∀ c k a, wI (nO w ci q) c k a = if a = q then 0 else wI w c k a) ∧ (∀ c k a, wJ (nO w ci q) c k a = if a = q then 0 else wJ w c k a) ∧ (∀ c k a, wR (nO w ci q) c k a = if a = q then 0 else wR w c k a) := ⟨rfl, rfl, rfl, rfl, fun _ => rfl, fun _ _ _ => rfl, fun _ _ _ => rfl, fun _ _ _ => rfl⟩
theorem S_nA (w : Wd) (t q n : Nat) : wI (nA w t q n) = wI w ∧ wJ (nA w t q n) = wJ w ∧ wR (nA w t q n) = wR w ∧ (∀ a, wK (nA w t q n) a = if a = q then t else wK w a) ∧ (∀ a, wL (nA w t q n) a = if a = q then n else wL w a) ∧ (∀ a i, xI (nA w t q n) a i = if a = q then 0 else xI w a i) ∧ (∀ a i, xJ (nA w t q n) a i = if a = q then 0 else xJ w a i) ∧ (∀ a i, xR (nA w t q n) a i = if a = q then 0 else xR w a i) := ⟨rfl, rfl, rfl, fun _ => rfl, fun _ => rfl, fun _ _ => rfl, fun _ _ => rfl, fun _ _ => rfl⟩
/-! ===== the reference's state: its scalars, its owner's sum, its rows of ints, its rows of longs, by the fields' numbers ===== -/
abbrev Rs : Type := (Nat → Int32) × Int64 × (Nat → Nat → Int32) × (Nat → Nat → Int64)
def sS (r : Rs) : Nat → Int32 := r.1
def sO (r : Rs) : Int64 := r.2.1
def rI (r : Rs) : Nat → Nat → Int32 := r.2.2.1
def rJ (r : Rs) : Nat → Nat → Int64 := r.2.2.2
def uS (r : Rs) (k : Nat) (v : Int32) : Rs := (fun k' => if k' = k then v else r.1 k', r.2)
def uO (r : Rs) (v : Int64) : Rs := (r.1, v, r.2.2)
def uI (r : Rs) (k i : Nat) (v : Int32) : Rs := (r.1, r.2.1, u2 r.2.2.1 k i v, r.2.2.2)
def uJ (r : Rs) (k i : Nat) (v : Int64) : Rs := (r.1, r.2.1, r.2.2.1, u2 r.2.2.2 k i v)
theorem R_uS (r : Rs) (k : Nat) (v : Int32) : sO (uS r k v) = sO r ∧ rI (uS r k v) = rI r ∧ rJ (uS r k v) = rJ r ∧ ∀ k', sS (uS r k v) k' = if k' = k then v else sS r k' := ⟨rfl, rfl, rfl, fun _ => rfl⟩
theorem R_uO (r : Rs) (v : Int64) : sS (uO r v) = sS r ∧ rI (uO r v) = rI r ∧ rJ (uO r v) = rJ r ∧ sO (uO r v) = v := ⟨rfl, rfl, rfl, rfl⟩
theorem R_uI (r : Rs) (k i : Nat) (v : Int32) : sS (uI r k i v) = sS r ∧ sO (uI r k i v) = sO r ∧ rJ (uI r k i v) = rJ r ∧ ∀ k' i', rI (uI r k i v) k' i' = if k' = k ∧ i' = i then v else rI r k' i' := ⟨rfl, rfl, rfl, fun _ _ => rfl⟩
theorem R_uJ (r : Rs) (k i : Nat) (v : Int64) : sS (uJ r k i v) = sS r ∧ sO (uJ r k i v) = sO r ∧ rI (uJ r k i v) = rI r ∧ ∀ k' i', rJ (uJ r k i v) k' i' = if k' = k ∧ i' = i then v else rJ r k' i' := ⟨rfl, rfl, rfl, fun _ _ => rfl⟩
/-- the kind of a field's array; its length -/
def kA (k : Nat) : Nat := match tyX11 k with
  | .array .int => 13
  | .array .long => 14
  | .array .boolean => 15
  | _ => 0
def lenA (k : Nat) : Nat := if k = 0 then 40 else if k = 1 then 2400 else if k = 28 ∨ k = 29 then 18060 else if 31 ≤ k ∧ k ≤ 37 then 101 else if k = 53 ∨ k = 54 then 602 else 301
def Sh (w : Wd) (m : Nat) : Prop := wK w m = 12 ∧ (∀ k, k < 65 → kA k ≠ 0 → wK w (wR w 11 k m) = kA k ∧ wL w (wR w 11 k m) = lenA k) ∧ ∀ j k, j < 65 → k < 65 → kA j ≠ 0 → kA k ≠ 0 → wR w 11 j m = wR w 11 k m → j = k
/-- w is w0 but for the reference at m, which holds r -/
def Wm (w0 : Wd) (m : Nat) (r : Rs) (w : Wd) : Prop :=
  (wK w = wK w0 ∧ wR w = wR w0 ∧ wL w = wL w0 ∧ xR w = xR w0) ∧ (∀ c k a, ¬ (c = 11 ∧ a = m) → wI w c k a = wI w0 c k a) ∧ (∀ c k a, ¬ (c = 11 ∧ a = m) → wJ w c k a = wJ w0 c k a)
  ∧ (∀ a i, (∀ k, k < 65 → kA k ≠ 0 → a ≠ wR w0 11 k m) → xI w a i = xI w0 a i ∧ xJ w a i = xJ w0 a i)
  ∧ (∀ k, wI w 11 k m = sS r k) ∧ wJ w 11 64 m = sO r ∧ (∀ k i, k < 65 → kA k ≠ 0 → xI w (wR w0 11 k m) i = rI r k i) ∧ (∀ k i, k < 65 → kA k ≠ 0 → xJ w (wR w0 11 k m) i = rJ r k i)
section RW
variable {w0 w : Wd} {m : Nat} {r : Rs}
theorem Wm.rf (w : Wd) (m : Nat) : Wm w m (fun k => wI w 11 k m, wJ w 11 64 m, fun k i => xI w (wR w 11 k m) i, fun k i => xJ w (wR w 11 k m) i) w :=
  ⟨⟨rfl, rfl, rfl, rfl⟩, fun _ _ _ _ => rfl, fun _ _ _ _ => rfl, fun _ _ _ => ⟨rfl, rfl⟩, fun _ => rfl, rfl, fun _ _ _ _ => rfl, fun _ _ _ _ => rfl⟩
theorem Wm.K (h : Wm w0 m r w) (hS : Sh w0 m) : wK w m = 11 + 1 := by rw [h.1.1]; exact hS.1
theorem Wm.kK (h : Wm w0 m r w) (hS : Sh w0 m) (k : Nat) {t : Nat} (hk : k < 65) (ht : kA k = t) (h0 : t ≠ 0) : wK w (wR w 11 k m) = t := by
  rw [h.1.1, h.1.2.1]; exact (hS.2.1 k hk (by rw [ht]; exact h0)).1.trans ht
theorem Wm.kL (h : Wm w0 m r w) (hS : Sh w0 m) (k : Nat) (hk : k < 65) (h0 : kA k ≠ 0) : wL w (wR w 11 k m) = lenA k := by
  rw [h.1.2.2.1, h.1.2.1]; exact (hS.2.1 k hk h0).2
theorem Wm.I (h : Wm w0 m r w) (k i : Nat) (hk : k < 65) (h0 : kA k ≠ 0) : xI w (wR w 11 k m) i = rI r k i := by
  rw [h.1.2.1]; exact h.2.2.2.2.2.2.1 k i hk h0
theorem Wm.J (h : Wm w0 m r w) (k i : Nat) (hk : k < 65) (h0 : kA k ≠ 0) : xJ w (wR w 11 k m) i = rJ r k i := by
  rw [h.1.2.1]; exact h.2.2.2.2.2.2.2 k i hk h0
theorem Wm.uS (h : Wm w0 m r w) (k : Nat) (v : Int32) : Wm w0 m (uS r k v) (sI w 11 k m v) := by
  refine ⟨h.1, fun c k' a hc => ?_, h.2.2.1, h.2.2.2.1, fun k' => ?_, h.2.2.2.2.2.1, h.2.2.2.2.2.2.1, h.2.2.2.2.2.2.2⟩
  · rw [(S_sI w 11 k m v).2.2.2.2.2.2.2, if_neg (fun q => hc ⟨q.1, q.2.2⟩)]; exact h.2.1 c k' a hc
  · rw [(S_sI w 11 k m v).2.2.2.2.2.2.2, (R_uS r k v).2.2.2]
    by_cases hk : k' = k
    · simp [hk]
    · simp [hk]; exact h.2.2.2.2.1 k'
theorem Wm.uO (h : Wm w0 m r w) (v : Int64) : Wm w0 m (uO r v) (sJ w 11 64 m v) := by
  refine ⟨h.1, h.2.1, fun c k' a hc => ?_, h.2.2.2.1, h.2.2.2.2.1, ?_, h.2.2.2.2.2.2.1, h.2.2.2.2.2.2.2⟩
  · rw [(S_sJ w 11 64 m v).2.2.2.2.2.2.2, if_neg (fun q => hc ⟨q.1, q.2.2⟩)]; exact h.2.2.1 c k' a hc
  · rw [(S_sJ w 11 64 m v).2.2.2.2.2.2.2]; simp [(R_uO r v).2.2.2]
theorem Wm.uI (h : Wm w0 m r w) (hS : Sh w0 m) (k i : Nat) (v : Int32) (hk : k < 65) (h0 : kA k ≠ 0) : Wm w0 m (uI r k i v) (yI w (wR w 11 k m) i v) := by
  refine ⟨h.1, h.2.1, h.2.2.1, fun a j ha => ⟨?_, (h.2.2.2.1 a j ha).2⟩, h.2.2.2.2.1, h.2.2.2.2.2.1, fun k' j hk' h0' => ?_, h.2.2.2.2.2.2.2⟩
  · rw [(S_yI w _ i v).2.2.2.2.2.2.2, if_neg (fun q => ha k hk h0 (by rw [q.1, h.1.2.1]))]; exact (h.2.2.2.1 a j ha).1
  · rw [(S_yI w _ i v).2.2.2.2.2.2.2, (R_uI r k i v).2.2.2, h.1.2.1]
    by_cases hkk : k' = k
    · subst hkk
      by_cases hj : j = i
      · simp [hj]
      · simp [hj]; exact h.2.2.2.2.2.2.1 k' j hk' h0'
    · rw [if_neg (fun q => hkk (hS.2.2 k' k hk' hk h0' h0 q.1)), if_neg (fun q => hkk q.1)]
      exact h.2.2.2.2.2.2.1 k' j hk' h0'
theorem Wm.uJ (h : Wm w0 m r w) (hS : Sh w0 m) (k i : Nat) (v : Int64) (hk : k < 65) (h0 : kA k ≠ 0) : Wm w0 m (uJ r k i v) (yJ w (wR w 11 k m) i v) := by
  refine ⟨h.1, h.2.1, h.2.2.1, fun a j ha => ⟨(h.2.2.2.1 a j ha).1, ?_⟩, h.2.2.2.2.1, h.2.2.2.2.2.1, h.2.2.2.2.2.2.1, fun k' j hk' h0' => ?_⟩
  · rw [(S_yJ w _ i v).2.2.2.2.2.2.2, if_neg (fun q => ha k hk h0 (by rw [q.1, h.1.2.1]))]; exact (h.2.2.2.1 a j ha).2
  · rw [(S_yJ w _ i v).2.2.2.2.2.2.2, (R_uJ r k i v).2.2.2, h.1.2.1]
    by_cases hkk : k' = k
    · subst hkk
      by_cases hj : j = i
      · simp [hj]
      · simp [hj]; exact h.2.2.2.2.2.2.2 k' j hk' h0'
    · rw [if_neg (fun q => hkk (hS.2.2 k' k hk' hk h0' h0 q.1)), if_neg (fun q => hkk q.1)]
      exact h.2.2.2.2.2.2.2 k' j hk' h0'
end RW
/-- a contract of the reference, in its state's words -/
def CM (X : Cx) (w0 : Wd) (m : Nat) (B : Bu) (M : Me) (as : List Av) (r : Rs) (P : Option Av → Rs → Prop) : Prop :=
  ∀ w, Wm w0 m r w → Ct X B M (vR m :: as) w (fun x w' => ∃ r', Wm w0 m r' w' ∧ P x r')
def pI (A : Int32 → Rs → Prop) : Option Av → Rs → Prop := fun x r => ∃ v, x = some (vI v) ∧ A v r
def pJ (A : Int64 → Rs → Prop) : Option Av → Rs → Prop := fun x r => ∃ v, x = some (vJ v) ∧ A v r
def pV (A : Rs → Prop) : Option Av → Rs → Prop := fun x r => x = none ∧ A r
theorem CM.I {X : Cx} {w0 : Wd} {m : Nat} {B : Bu} {M : Me} {as : List Av} {r : Rs} {A A' : Int32 → Rs → Prop} (h : CM X w0 m B M as r (pI A)) (hq : ∀ x r', A x r' → A' x r') : CM X w0 m B M as r (pI A') := fun w hw => (h w hw).mono fun _ _ ⟨r', a, ⟨v, e, b⟩⟩ => ⟨r', a, v, e, hq _ _ b⟩
theorem CM.J {X : Cx} {w0 : Wd} {m : Nat} {B : Bu} {M : Me} {as : List Av} {r : Rs} {A A' : Int64 → Rs → Prop} (h : CM X w0 m B M as r (pJ A)) (hq : ∀ x r', A x r' → A' x r') : CM X w0 m B M as r (pJ A') := fun w hw => (h w hw).mono fun _ _ ⟨r', a, ⟨v, e, b⟩⟩ => ⟨r', a, v, e, hq _ _ b⟩
theorem CM.V {X : Cx} {w0 : Wd} {m : Nat} {B : Bu} {M : Me} {as : List Av} {r : Rs} {A A' : Rs → Prop} (h : CM X w0 m B M as r (pV A)) (hq : ∀ r', A r' → A' r') : CM X w0 m B M as r (pV A') := fun w hw => (h w hw).mono fun _ _ ⟨r', a, ⟨e, b⟩⟩ => ⟨r', a, e, hq _ b⟩
def qM (w0 : Wd) (m : Nat) (P : Option Av → Rs → Prop) : Option Av → Wd → Prop := fun x w' => ∃ r', Wm w0 m r' w' ∧ P x r'
section RE
variable {X : Cx} {M : Me} {V : Vw} {rc rs pc : Nat} {lv : List (Nat × Av)} {st : List Av} {w0 w : Wd} {m : Nat} {r : Rs}
theorem n_get {idx : Nat} (hS : Sh w0 m) (hW : Wm w0 m r w) (k : Nat) (hd : decode M.2.1 pc = .ok (.getfield idx, 3)) (hf : FL M.1.cls idx 11 k) (ht : fk (cY 11 k) = 2) (kk : EJ X M V rc rs (pc + 3) lv (vR (wR w 11 k m) :: st) w) : EJ X M V rc rs pc lv (vR m :: st) w := e_getR hd hf ht (hW.K hS) kk
theorem n_getS {idx : Nat} (hS : Sh w0 m) (hW : Wm w0 m r w) (k : Nat) (hd : decode M.2.1 pc = .ok (.getfield idx, 3)) (hf : FL M.1.cls idx 11 k) (ht : fk (cY 11 k) = 0) (kk : EJ X M V rc rs (pc + 3) lv (vI (sS r k) :: st) w) : EJ X M V rc rs pc lv (vR m :: st) w := e_getI hd hf ht (hW.K hS) (by rw [hW.2.2.2.2.1 k]; exact kk)
theorem n_getO {idx : Nat} (hS : Sh w0 m) (hW : Wm w0 m r w) (hd : decode M.2.1 pc = .ok (.getfield idx, 3)) (hf : FL M.1.cls idx 11 64) (kk : EJ X M V rc rs (pc + 3) lv (vJ (sO r) :: st) w) : EJ X M V rc rs pc lv (vR m :: st) w := e_getJ hd hf rfl (hW.K hS) (by rw [hW.2.2.2.2.2.1]; exact kk)
theorem n_putS {idx : Nat} {x : Int32} (hS : Sh w0 m) (hW : Wm w0 m r w) (k : Nat) (hd : decode M.2.1 pc = .ok (.putfield idx, 3)) (hf : FL M.1.cls idx 11 k) (hfin : (cT 11 k).2.2.2 = false) (ht : cY 11 k = .int) (kk : ∀ w1, Wm w0 m (uS r k x) w1 → EJ X M V rc rs (pc + 3) lv st w1) : EJ X M V rc rs pc lv (vI x :: vR m :: st) w := e_putI hd hf (Or.inl hfin) ht (hW.K hS) (kk _ (hW.uS k x))
theorem n_putO {idx : Nat} {x : Int64} (hS : Sh w0 m) (hW : Wm w0 m r w) (hd : decode M.2.1 pc = .ok (.putfield idx, 3)) (hf : FL M.1.cls idx 11 64) (kk : ∀ w1, Wm w0 m (uO r x) w1 → EJ X M V rc rs (pc + 3) lv st w1) : EJ X M V rc rs pc lv (vJ x :: vR m :: st) w := e_putJ hd hf (Or.inl rfl) rfl (hW.K hS) (kk _ (hW.uO x))
theorem n_iald {i : Int32} {wa : Wd} (hS : Sh w0 m) (hW : Wm w0 m r w) (k : Nat) (hd : decode M.2.1 pc = .ok (.iaload, 1)) (hk : k < 65) (h0 : kA k = 13) (hi : vp_in i (lenA k)) (hwa : wR wa = wR w) (kk : EJ X M V rc rs (pc + 1) lv (vI (rI r k i.toNatClampNeg) :: st) w) : EJ X M V rc rs pc lv (vI i :: vR (wR wa 11 k m) :: st) w := by
  rw [hwa]
  exact e_iald hd (hW.kK hS k hk h0 (by decide)) (by rw [hW.kL hS k hk (by rw [h0]; decide)]; exact hi) (by rw [hW.I k _ hk (by rw [h0]; decide)]; exact kk)
theorem n_zald {i : Int32} {wa : Wd} (hS : Sh w0 m) (hW : Wm w0 m r w) (k : Nat) (hd : decode M.2.1 pc = .ok (.baload, 1)) (hk : k < 65) (h0 : kA k = 15) (hi : vp_in i (lenA k)) (hwa : wR wa = wR w) (kk : EJ X M V rc rs (pc + 1) lv (vI (rI r k i.toNatClampNeg) :: st) w) : EJ X M V rc rs pc lv (vI i :: vR (wR wa 11 k m) :: st) w := by
  rw [hwa]
  exact e_zald hd (hW.kK hS k hk h0 (by decide)) (by rw [hW.kL hS k hk (by rw [h0]; decide)]; exact hi) (by rw [hW.I k _ hk (by rw [h0]; decide)]; exact kk)
theorem n_lald {i : Int32} {wa : Wd} (hS : Sh w0 m) (hW : Wm w0 m r w) (k : Nat) (hd : decode M.2.1 pc = .ok (.laload, 1)) (hk : k < 65) (h0 : kA k = 14) (hi : vp_in i (lenA k)) (hwa : wR wa = wR w) (kk : EJ X M V rc rs (pc + 1) lv (vJ (rJ r k i.toNatClampNeg) :: st) w) : EJ X M V rc rs pc lv (vI i :: vR (wR wa 11 k m) :: st) w := by
  rw [hwa]
  exact e_lald hd (hW.kK hS k hk h0 (by decide)) (by rw [hW.kL hS k hk (by rw [h0]; decide)]; exact hi) (by rw [hW.J k _ hk (by rw [h0]; decide)]; exact kk)
theorem n_iast {i x : Int32} {wa : Wd} (hS : Sh w0 m) (hW : Wm w0 m r w) (k : Nat) (hd : decode M.2.1 pc = .ok (.iastore, 1)) (hk : k < 65) (h0 : kA k = 13) (hi : vp_in i (lenA k)) (hwa : wR wa = wR w) (kk : ∀ w1, Wm w0 m (uI r k i.toNatClampNeg x) w1 → EJ X M V rc rs (pc + 1) lv st w1) : EJ X M V rc rs pc lv (vI x :: vI i :: vR (wR wa 11 k m) :: st) w := by
  rw [hwa]
  exact e_iast hd (hW.kK hS k hk h0 (by decide)) (by rw [hW.kL hS k hk (by rw [h0]; decide)]; exact hi) (kk _ (hW.uI hS k _ x hk (by rw [h0]; decide)))
theorem n_zast {i x : Int32} {wa : Wd} (hS : Sh w0 m) (hW : Wm w0 m r w) (k : Nat) (hd : decode M.2.1 pc = .ok (.bastore, 1)) (hk : k < 65) (h0 : kA k = 15) (hi : vp_in i (lenA k)) (hwa : wR wa = wR w) (hx : x = 0 ∨ x = 1) (kk : ∀ w1, Wm w0 m (uI r k i.toNatClampNeg x) w1 → EJ X M V rc rs (pc + 1) lv st w1) : EJ X M V rc rs pc lv (vI x :: vI i :: vR (wR wa 11 k m) :: st) w := by
  rw [hwa]
  have hn : vp_nar .boolean x = x := by rcases hx with rfl | rfl <;> rfl
  refine e_zast hd (hW.kK hS k hk h0 (by decide)) (by rw [hW.kL hS k hk (by rw [h0]; decide)]; exact hi) ?_
  rw [hn]
  exact kk _ (hW.uI hS k _ x hk (by rw [h0]; decide))
theorem n_last {i : Int32} {x : Int64} {wa : Wd} (hS : Sh w0 m) (hW : Wm w0 m r w) (k : Nat) (hd : decode M.2.1 pc = .ok (.lastore, 1)) (hk : k < 65) (h0 : kA k = 14) (hi : vp_in i (lenA k)) (hwa : wR wa = wR w) (kk : ∀ w1, Wm w0 m (uJ r k i.toNatClampNeg x) w1 → EJ X M V rc rs (pc + 1) lv st w1) : EJ X M V rc rs pc lv (vJ x :: vI i :: vR (wR wa 11 k m) :: st) w := by
  rw [hwa]
  exact e_last hd (hW.kK hS k hk h0 (by decide)) (by rw [hW.kL hS k hk (by rw [h0]; decide)]; exact hi) (kk _ (hW.uJ hS k _ x hk (by rw [h0]; decide)))
theorem Wm.same {w2 : Wd} {r2 : Rs} (h : Wm w0 m r w) (h2 : Wm w0 m r2 w2) : wR w = wR w2 := h.1.2.1.trans h2.1.2.1.symm
end RE
