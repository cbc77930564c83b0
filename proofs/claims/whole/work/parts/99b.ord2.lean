/-! ===== the order: the reference's places ===== -/
def PlE (r r1 : Rs) (w j : Nat) : Prop := rI r1 53 j = nI (own r w) ∧ rI r1 54 j = bI (decide (rI r 3 w = 6))
def vW (r : Rs) (w : Nat) : Prop := 1 ≤ w ∧ w ≤ nE r ∧ (rI r 3 w = 6 → ix r 24 w ≠ 0)
def Viw (r : Rs) (dy as : Int32) (r1 : Rs) : Prop := Pe r r1 ∧ sS r1 45 = dy ∧ sS r1 46 = as
def PlR (r : Rs) (dy as : Int32) (L : List Nat) (r1 : Rs) : Prop := Viw r dy as r1 ∧ sS r1 57 = nI L.length ∧ ∀ j, j < L.length → PlE r r1 (L.getD j 0) j
section O3
variable {X : Cx} {w0 : Wd} {m : Nat} {r : Rs} {dy as : Int32}
theorem own_in (hI : RI r) {w : Nat} (hw : vW r w) : 1 ≤ own r w ∧ own r w ≤ nE r ∧ (rI r 3 w = 6 → rI r 25 (own r w) = nI w) ∧ (rI r 3 w ≠ 6 → own r w = w) := by
  have hE := hI.2.2.2.1 w hw.1 hw.2.1
  unfold own
  by_cases h6 : rI r 3 w = 6
  · rw [if_pos h6]
    have h0 := hw.2.2 h6
    have a := hE.2.2.2.2.1
    have b := (hE.2.2.2.2.2.2.2.1 h0).2.2.2
    have hE2 := hI.2.2.2.1 _ (show 1 ≤ ix r 24 w by omega) a
    exact ⟨by omega, a, fun _ => by rw [hE2.1.2.2.2.2.2, b], fun z => absurd h6 z⟩
  · rw [if_neg h6]
    exact ⟨hw.1, hw.2.1, fun z => absurd z h6, fun _ => rfl⟩
theorem s_isFirst (hS : Sh w0 m) {r1 : Rs} (hV : Viw r dy as r1) (w : Nat) (hw : w < 301) : CM X w0 m bX11_isFirst mX11_isFirst [vI (nI w)] r1 (pI fun v r2 => v = bI (fstB r dy as w) ∧ r2 = r1) := by
  have hv : vp_in (nI w) 301 := inN hw (by decide)
  refine pX11_isFirst X w0 m hS _ (nI w) r1 ?_
  rw [nI_clamp (show w < 2 ^ 31 by omega), hV.1.2.2.1 3 rfl, hV.1.2.2.1 22 rfl, hV.1.2.2.1 23 rfl]
  refine ⟨hv, fun h => ⟨by simp [fstB, h, bI], rfl⟩, fun h => ⟨hv, hv, (s_counts hS r1 _ _).I ?_⟩⟩
  rintro v r2 ⟨rfl, rfl⟩
  rw [hV.2.1, hV.2.2, hV.1.2.2.1 20 rfl]
  refine ⟨fun z => ?_, fun z => ⟨hv, fun z2 => ?_, fun z2 => ?_⟩⟩
  · rw [bI_0] at z; exact ⟨by simp [fstB, z, bI], rfl⟩
  · exact ⟨by simp [fstB, z2, bI], rfl⟩
  · rw [bI_n] at z; exact ⟨by simp [fstB, h, z, z2, bI], rfl⟩
theorem fst_6 {w : Nat} (h : rI r 3 w = 6) : fstB r dy as w = false := by simp [fstB, h]
theorem s_isAhead (hS : Sh w0 m) (hI : RI r) {r1 : Rs} (hV : Viw r dy as r1) (j w v : Nat) (hj : j < 602) (hw : vW r w) (hv : vW r v) (hp : PlE r r1 w j) : CM X w0 m bX11_isAhead mX11_isAhead [vI (nI j), vI (nI (own r v)), vI (bI (decide (rI r 3 v = 6)))] r1 (pI fun u r2 => u = bI (ahd r dy as w v) ∧ r2 = r1) := by
  have hN := hI.1.2.1.2
  obtain ⟨w1, w2, w3, w4⟩ := own_in hI hw
  obtain ⟨v1, v2, v3, v4⟩ := own_in hI hv
  have hvj : vp_in (nI j) 602 := inN hj (by decide)
  have wv1 := hw.1
  have wv2 := hw.2.1
  have vv1 := hv.1
  have vv2 := hv.2.1
  -- the last step
  have last : ∀ (a b : Int32), a = bI (fstB r dy as w) → b = bI (fstB r dy as v) → iX11_isAhead_66 X w0 m (fun u r2 => u = bI (ahd r dy as w v) ∧ r2 = r1) (nI w) (nI v) a b r1 := by
    rintro a b rfl rfl
    refine rX11_isAhead_66 X w0 m hS _ _ _ _ _ r1 ?_
    rw [nI_clamp (show w < 2 ^ 31 by omega), nI_clamp (show v < 2 ^ 31 by omega), hV.1.2.2.1 13 rfl]
    have hvw : vp_in (nI w) 301 := inN (by omega) (by decide)
    have hvv : vp_in (nI v) 301 := inN (by omega) (by decide)
    have inj : bI (fstB r dy as w) = bI (fstB r dy as v) ↔ fstB r dy as w = fstB r dy as v := by
      cases fstB r dy as w <;> cases fstB r dy as v <;> simp [bI]
    rw [inj]
    refine ⟨fun he => ⟨hvw, hvv, fun hd => ⟨fun hl => ?_, fun hl => ?_⟩, fun hd => ⟨hvw, hvv, fun hl => ?_, fun hl => ?_⟩⟩, fun hne => ⟨bI_01 _, ?_, rfl⟩⟩
    · rw [nI_leI (by omega) (by omega)] at hl
      have : ¬ w < v := by omega
      exact ⟨by simp [ahd, he, hd, this, bI], rfl⟩
    · rw [nI_leI (by omega) (by omega)] at hl
      have : w < v := by omega
      exact ⟨by simp [ahd, he, hd, this, bI], rfl⟩
    · have : ¬ rI r 13 w < rI r 13 v := by
        rw [Int32.le_iff_toInt_le] at hl; rw [Int32.lt_iff_toInt_lt]; omega
      exact ⟨by simp [ahd, he, hd, this, bI], rfl⟩
    · have : rI r 13 w < rI r 13 v := by
        rw [Int32.le_iff_toInt_le] at hl; rw [Int32.lt_iff_toInt_lt]; omega
      exact ⟨by simp [ahd, he, hd, this, bI], rfl⟩
    · unfold ahd; rw [if_neg hne]
  have mid : iX11_isAhead_21 X w0 m (fun u r2 => u = bI (ahd r dy as w v) ∧ r2 = r1) (nI j) (bI (decide (rI r 3 v = 6))) (nI w) (nI v) r1 := by
    refine rX11_isAhead_21 X w0 m hS _ _ _ _ _ r1 ?_
    rw [nI_clamp (show j < 2 ^ 31 by omega), hp.2]
    have sv : ∀ (a : Int32), a = bI (fstB r dy as w) → (¬ bI (decide (rI r 3 v = 6)) = 0 → iX11_isAhead_66 X w0 m (fun u r2 => u = bI (ahd r dy as w v) ∧ r2 = r1) (nI w) (nI v) a 0 r1) := fun a ha z => by
      rw [bI_n] at z
      exact last a 0 ha (by rw [fst_6 (by simpa using z)]; rfl)
    have nv : ∀ (a : Int32), a = bI (fstB r dy as w) → CM X w0 m bX11_isFirst mX11_isFirst [vI (nI v)] r1 (pI fun x4 r6 => (x4 = 0 → iX11_isAhead_66 X w0 m (fun u r2 => u = bI (ahd r dy as w v) ∧ r2 = r1) (nI w) (nI v) a 0 r6) ∧ (¬ x4 = 0 → iX11_isAhead_66 X w0 m (fun u r2 => u = bI (ahd r dy as w v) ∧ r2 = r1) (nI w) (nI v) a 1 r6)) := fun a ha => by
      refine (s_isFirst hS hV v (by omega)).I ?_
      rintro u r2 ⟨rfl, rfl⟩
      refine ⟨fun z => ?_, fun z => ?_⟩
      · rw [bI_0] at z; exact last a 0 ha (by rw [z]; rfl)
      · rw [bI_n] at z; exact last a 1 ha (by rw [z]; rfl)
    refine ⟨hvj, fun z => ?_, fun z => (s_isFirst hS hV w (by omega)).I ?_⟩
    · rw [bI_n] at z
      have hw0 : (0 : Int32) = bI (fstB r dy as w) := by rw [fst_6 (by simpa using z)]; rfl
      exact ⟨sv 0 hw0, fun _ => nv 0 hw0⟩
    · rintro u r2 ⟨rfl, rfl⟩
      refine ⟨fun y => ?_, fun y => ?_⟩
      · rw [bI_0] at y
        have hw0 : (0 : Int32) = bI (fstB r dy as w) := by rw [y]; rfl
        exact ⟨sv 0 hw0, fun _ => nv 0 hw0⟩
      · rw [bI_n] at y
        have hw0 : (1 : Int32) = bI (fstB r dy as w) := by rw [y]; rfl
        exact ⟨sv 1 hw0, fun _ => nv 1 hw0⟩
  refine pX11_isAhead X w0 m hS _ _ _ _ r1 (pX11_whose X w0 m hS _ _ r1 ?_)
  rw [nI_clamp (show j < 2 ^ 31 by omega), hp.1, hp.2, nI_clamp (show own r w < 2 ^ 31 by omega), nI_clamp (show own r v < 2 ^ 31 by omega), hV.1.2.2.1 25 rfl]
  have vo : vp_in (nI (own r v)) 301 := inN (by omega) (by decide)
  refine ⟨hvj, fun z => ⟨hvj, ?_⟩, fun z => ⟨hvj, inN (by omega) (by decide), ?_⟩⟩
  · rw [bI_0] at z
    have h6 : rI r 3 w ≠ 6 := by simpa using z
    rw [w4 h6]
    refine ⟨fun y => ?_, fun y => ⟨vo, ?_⟩⟩
    · have h6v : rI r 3 v ≠ 6 := by rw [bI_0] at y; simpa using y
      have e := v4 h6v
      rw [e]; exact mid
    · have h6v : rI r 3 v = 6 := by rw [bI_n] at y; simpa using y
      rw [v3 h6v]; exact mid
  · rw [bI_n] at z
    have h6 : rI r 3 w = 6 := by simpa using z
    rw [w3 h6]
    refine ⟨fun y => ?_, fun y => ⟨vo, ?_⟩⟩
    · have h6v : rI r 3 v ≠ 6 := by rw [bI_0] at y; simpa using y
      have e := v4 h6v
      rw [e]; exact mid
    · have h6v : rI r 3 v = 6 := by rw [bI_n] at y; simpa using y
      rw [v3 h6v]; exact mid
theorem s_standLoop (hS : Sh w0 m) (hI : RI r) (v n : Nat) (hv : vW r v) (hn : n < 602) (A : Rs → Prop) : ∀ (R T : List Nat) (r1 : Rs), R.length + T.length = n → (∀ w ∈ R, vW r w) → Viw r dy as r1 → sS r1 57 = nI n → (∀ j, j < R.length → PlE r r1 (R.reverse.getD j 0) j) → (∀ j, j < T.length → PlE r r1 (T.getD j 0) (R.length + 1 + j)) →
    (∀ r2, PlR r dy as ((insR r dy as v R).reverse ++ T) r2 → A r2) → iX11_stand_5 X w0 m A (nI (own r v)) (bI (decide (rI r 3 v = 6))) (nI R.length) r1 := by
  -- the place written
  have put : ∀ (R T : List Nat) (r1 : Rs), R.length + T.length = n → Viw r dy as r1 → sS r1 57 = nI n → (∀ j, j < R.length → PlE r r1 (R.reverse.getD j 0) j) → (∀ j, j < T.length → PlE r r1 (T.getD j 0) (R.length + 1 + j)) → (∀ r2, PlR r dy as (R.reverse ++ v :: T) r2 → A r2) → iX11_stand_55 X w0 m A (nI (own r v)) (bI (decide (rI r 3 v = 6))) (nI R.length) r1 := by
    intro R T r1 hl hV h57 hR hT h
    have hv1 : vp_in (nI R.length) 602 := inN (by omega) (by decide)
    refine rX11_stand_55 X w0 m hS _ _ _ _ r1 ?_
    rw [nI_clamp (show R.length < 2 ^ 31 by omega)]
    refine ⟨hv1, ?_⟩
    rintro r2 rfl
    refine ⟨hv1, bI_01 _, ?_⟩
    rintro r5 rfl r7 rfl
    have e57 : sS (uI (uI r1 53 R.length (nI (own r v))) 54 R.length (bI (decide (rI r 3 v = 6)))) 57 = nI n := h57
    rw [e57, nI_1]
    refine h _ ⟨⟨((hV.1.uI 53 _ _ rfl).uI 54 _ _ rfl).uS 57 _ rfl, hV.2.1, hV.2.2⟩, ?_, fun j hj => ?_⟩
    · show nI (n + 1) = _
      congr 1; simp; omega
    · have hrow : ∀ w, PlE r (uS (uI (uI r1 53 R.length (nI (own r v))) 54 R.length (bI (decide (rI r 3 v = 6)))) 57 (nI (n + 1))) w j ↔ (if j = R.length then nI (own r v) else rI r1 53 j) = nI (own r w) ∧ (if j = R.length then bI (decide (rI r 3 v = 6)) else rI r1 54 j) = bI (decide (rI r 3 w = 6)) := fun w => by
        unfold PlE
        simp [R_uS, R_uI]
      rw [hrow]
      have hlen : (R.reverse ++ v :: T).length = R.length + 1 + T.length := by simp; omega
      rw [hlen] at hj
      by_cases h1 : j = R.length
      · subst h1
        have : (R.reverse ++ v :: T).getD R.length 0 = v := by simp [List.getD, List.getElem?_append]
        rw [this]; simp
      · rw [if_neg h1, if_neg h1]
        by_cases h2 : j < R.length
        · have : (R.reverse ++ v :: T).getD j 0 = R.reverse.getD j 0 := by simp [List.getD, List.getElem?_append, h2]
          rw [this]; exact hR j h2
        · have h3 := hT (j - (R.length + 1)) (by omega)
          have : (R.reverse ++ v :: T).getD j 0 = T.getD (j - (R.length + 1)) 0 := by
            have e2 : j - R.length = (j - (R.length + 1)) + 1 := by omega
            simp [List.getD, List.getElem?_append, h2, e2]
          rw [this]
          rw [show R.length + 1 + (j - (R.length + 1)) = j by omega] at h3
          exact h3
  intro R
  induction R with
  | nil =>
    intro T r1 hl hR0 hV h57 hR hT h
    refine rX11_stand_5 X w0 m hS _ _ _ _ r1 ⟨fun _ => put [] T r1 hl hV h57 hR hT h, fun z => absurd (by decide) z⟩
  | cons w t ih =>
    intro T r1 hl hR0 hV h57 hR hT h
    have hlt : (w :: t).length = t.length + 1 := rfl
    have hw := hR0 w List.mem_cons_self
    have hlast : PlE r r1 w t.length := by
      have := hR t.length (by simp)
      have e : (w :: t).reverse.getD t.length 0 = w := by simp [List.getD, List.getElem?_append]
      rw [e] at this; exact this
    refine rX11_stand_5 X w0 m hS _ _ _ _ r1 ⟨fun z => ?_, fun _ => ?_⟩
    · rw [hlt] at z
      have := (nI_leI (a := t.length + 1) (b := 0) (by omega) (by omega)).mp z; omega
    · have e1 : nI (w :: t).length - 1 = nI t.length := nI_pred _
      have e2 : nI (w :: t).length + -1 = nI t.length := by rw [← Int32.sub_eq_add_neg]; exact nI_pred _
      rw [e1, e2]
      refine (s_isAhead hS hI hV t.length w v (by omega) hw hv hlast).I ?_
      rintro u r2 ⟨rfl, rfl⟩
      refine ⟨fun z => ?_, fun z => ?_⟩
      · rw [bI_n] at z
        refine put (w :: t) T r2 hl hV h57 hR hT (fun r3 h3 => h r3 ?_)
        have : insR r dy as v (w :: t) = v :: w :: t := by unfold insR; rw [if_pos z]
        rw [this, List.reverse_cons, List.append_assoc]; exact h3
      · rw [bI_0] at z
        have hv1 : vp_in (nI (w :: t).length) 602 := inN (by omega) (by decide)
        have hv2 : vp_in (nI t.length) 602 := inN (by omega) (by decide)
        rw [nI_clamp (show t.length < 2 ^ 31 by omega), nI_clamp (show (w :: t).length < 2 ^ 31 by omega)]
        refine ⟨hv2, hv1, ?_⟩
        rintro r8 rfl
        have e54 : rI (uI r2 53 (w :: t).length (rI r2 53 t.length)) 54 t.length = bI (decide (rI r 3 w = 6)) := hlast.2
        rw [e54]
        refine ⟨hv2, hv1, bI_01 _, ?_⟩
        rintro r12 rfl
        rw [hlast.1]
        have hrow : ∀ y j, PlE r (uI (uI r2 53 (w :: t).length (nI (own r w))) 54 (w :: t).length (bI (decide (rI r 3 w = 6)))) y j ↔ (if j = t.length + 1 then nI (own r w) else rI r2 53 j) = nI (own r y) ∧ (if j = t.length + 1 then bI (decide (rI r 3 w = 6)) else rI r2 54 j) = bI (decide (rI r 3 y = 6)) := fun y j => by
          unfold PlE
          simp [R_uI]
        refine ih (w :: T) _ (by simp at hl ⊢; omega) (fun y hy => hR0 y (List.mem_cons_of_mem _ hy)) ⟨(hV.1.uI 53 _ _ rfl).uI 54 _ _ rfl, hV.2.1, hV.2.2⟩ h57 (fun j hj => ?_) (fun j hj => ?_) (fun r3 h3 => h r3 ?_)
        · rw [hrow, if_neg (by omega), if_neg (by omega)]
          have := hR j (by simp; omega)
          have e : (w :: t).reverse.getD j 0 = t.reverse.getD j 0 := by simp [List.getD, List.getElem?_append, hj]
          rw [e] at this; exact this
        · rw [hrow]
          cases j with
          | zero => simp
          | succ j =>
            rw [if_neg (by omega), if_neg (by omega)]
            have := hT j (by simp at hj; omega)
            rw [show (w :: t).length + 1 + j = t.length + 1 + (j + 1) by simp; omega] at this
            exact this
        · have e3 : insR r dy as v (w :: t) = w :: insR r dy as v t := by
            show (if ahd r dy as w v = true then v :: w :: t else w :: insR r dy as v t) = _
            rw [if_neg (by rw [z]; decide)]
          rw [e3, List.reverse_cons, List.append_assoc]; exact h3
theorem s_stand (hS : Sh w0 m) (hI : RI r) (v : Nat) (hv : vW r v) (L : List Nat) (hL : ∀ w ∈ L, vW r w) (hn : L.length < 602) {r1 : Rs} (h : PlR r dy as L r1) : CM X w0 m bX11_stand mX11_stand [vI (nI (own r v)), vI (bI (decide (rI r 3 v = 6)))] r1 (pV fun r2 => PlR r dy as (insR r dy as v L.reverse).reverse r2) := by
  refine pX11_stand X w0 m hS _ _ _ r1 ?_
  rw [h.2.1]
  have e : L.length = L.reverse.length := by simp
  rw [e]
  refine s_standLoop hS hI v L.length hv hn _ L.reverse [] r1 (by simp) (fun w hw => hL w (List.mem_reverse.mp hw)) h.1 (by rw [h.2.1]) (fun j hj => by rw [List.reverse_reverse]; exact h.2.2 j (by simpa using hj)) (fun j hj => by simp at hj) (fun r2 h2 => by rw [List.append_nil] at h2; exact h2)
end O3
