/-! ===== check, the calls ===== -/
def zB (r : Rs) (a b : Nat) : Rs := (r.1, r.2.1, r.2.2.1, fun k i => if k = 63 ∧ a < i ∧ i ≤ b then 0 else r.2.2.2 k i)
theorem zB_J (r : Rs) (a b k i : Nat) : rJ (zB r a b) k i = if k = 63 ∧ a < i ∧ i ≤ b then 0 else rJ r k i := rfl
theorem zB_n (r : Rs) (a : Nat) : zB r a a = r := by
  unfold zB
  refine Prod.ext rfl (Prod.ext rfl (Prod.ext rfl ?_))
  funext k i
  show (if k = 63 ∧ a < i ∧ i ≤ a then 0 else r.2.2.2 k i) = _
  rw [if_neg (by omega)]
theorem zB_dn (r : Rs) (a b : Nat) (h : a + 1 ≤ b) : uJ (zB r (a + 1) b) 63 (a + 1) 0 = zB r a b := by
  unfold zB uJ u2
  refine Prod.ext rfl (Prod.ext rfl (Prod.ext rfl ?_))
  funext k i
  show (if k = 63 ∧ i = a + 1 then 0 else if k = 63 ∧ a + 1 < i ∧ i ≤ b then 0 else r.2.2.2 k i) = (if k = 63 ∧ a < i ∧ i ≤ b then 0 else r.2.2.2 k i)
  by_cases h1 : k = 63 ∧ i = a + 1
  · rw [if_pos h1, if_pos (by omega)]
  · rw [if_neg h1]
    by_cases h2 : k = 63 ∧ a + 1 < i ∧ i ≤ b
    · rw [if_pos h2, if_pos (by omega)]
    · rw [if_neg h2, if_neg (by omega)]
theorem zB_T (r : Rs) (n : Nat) : zB r 0 n = zT r n := by
  unfold zB zT
  refine Prod.ext rfl (Prod.ext rfl (Prod.ext rfl ?_))
  funext k i
  by_cases h : k = 63 ∧ 0 < i ∧ i ≤ n
  · show (if k = 63 ∧ 0 < i ∧ i ≤ n then 0 else r.2.2.2 k i) = (if k = 63 ∧ 1 ≤ i ∧ i ≤ n then 0 else r.2.2.2 k i)
    rw [if_pos h, if_pos (by omega)]
  · show (if k = 63 ∧ 0 < i ∧ i ≤ n then 0 else r.2.2.2 k i) = (if k = 63 ∧ 1 ≤ i ∧ i ≤ n then 0 else r.2.2.2 k i)
    rw [if_neg h, if_neg (by omega)]
theorem lst_le (f : Nat → Bool) : ∀ (n i : Nat), lst f i n ≤ i + n := by
  intro n
  induction n with
  | zero => intro i; unfold lst; omega
  | succ n ih => intro i; unfold lst; split; omega; have := ih (i + 1); omega
def chkA (r : Rs) (s : Int64) : Int32 := if lst (badB r) 0 (nE r) = 0 then (if s = sO r then 0 else -1) else nI (lst (badB r) 0 (nE r))
theorem s_check {X : Cx} {w0 : Wd} {m : Nat} (hS : Sh w0 m) (r : Rs) (hc : RIc r) (hE : RIE r) (s : Int64) : CM X w0 m bX11_check mX11_check [vJ s] r (pI fun u r1 => u = chkA r s ∧ r1 = uS (zT r (nE r)) 41 0) := by
  have hN := hc.2.1.2
  refine pX11_check X w0 m hS _ s r ?_
  rw [hc.2.1.1]
  have key : ∀ e, e ≤ nE r → iX11_check_8 X w0 m (fun u r1 => u = chkA r s ∧ r1 = uS (zT r (nE r)) 41 0) s (nI (lst (badB r) e (nE r - e))) (nI e) (zB r e (nE r)) := by
    intro e
    induction e with
    | zero =>
      intro _
      refine rX11_check_8 X w0 m hS _ s _ _ _ ⟨fun _ => ?_, fun q => absurd (by decide) q⟩
      rintro r2 rfl
      rw [Nat.sub_zero, nI_z (by have := lst_le (badB r) (nE r) 0; omega), lg_eq, zB_T]
      refine ⟨fun h => ⟨fun h2 => ?_, fun h2 => ?_⟩, fun h => ?_⟩
      · have h2 : ¬ s = sO r := h2
        exact ⟨by simp [chkA, h, h2], rfl⟩
      · have h2 : s = sO r := h2
        exact ⟨by simp [chkA, h, h2], rfl⟩
      · exact ⟨by simp [chkA, h], rfl⟩
    | succ e ih =>
      intro he
      have hI := hE (e + 1) (by omega) he
      have hec : (nI (e + 1)).toNatClampNeg = e + 1 := nI_clamp (by omega)
      have hv : vp_in (nI (e + 1)) 301 := inN (by omega) (by omega)
      have hdn := zB_dn r e (nE r) he
      have hm1 : nI (e + 1) + (-1) = nI e := by
        have := nI_pred e
        rw [← this]
        show nI (e + 1) + (-1) = nI (e + 1) - 1
        rw [Int32.sub_eq_add_neg]
      have hl : lst (badB r) e (nE r - e) = if badB r (e + 1) then e + 1 else lst (badB r) (e + 1) (nE r - (e + 1)) := by
        rw [show nE r - e = (nE r - (e + 1)) + 1 by omega]
        rfl
      have ih := ih (by omega)
      rw [hl] at ih
      refine rX11_check_8 X w0 m hS _ s _ _ _ ⟨fun q => ?_, fun _ => ?_⟩
      · have q : nI (e + 1) ≤ nI 0 := q
        rw [nI_leI (by omega) (by omega)] at q
        omega
      · rw [hec, hm1, lg_eq]
        have h6 : rI (zB r (e + 1) (nE r)) 6 (e + 1) = nI (paR r (e + 1)) := hI.1.2.2.1
        have h63 : rJ (zB r (e + 1) (nE r)) 63 (e + 1) = rJ r 63 (e + 1) := by rw [zB_J, if_neg (by omega)]
        have h62 : rJ (zB r (e + 1) (nE r)) 62 (e + 1) = rJ r 62 (e + 1) := by rw [zB_J, if_neg (by omega)]
        rw [h6, h63, h62, nI_z (by have := hI.2.2.1.1; omega)]
        refine ⟨hv, fun hp => ⟨hv, ?_⟩, fun hp => ⟨hv, hv, fun h => ⟨hv, ?_⟩, fun h => ⟨hv, ?_⟩⟩⟩
        · rintro r2 rfl
          rw [hdn]
          rw [if_neg (by simp [badB, hp])] at ih
          exact ih
        · rintro r2 rfl
          rw [hdn]
          rw [if_neg (by simp [badB, h])] at ih
          exact ih
        · rintro r2 rfl
          rw [hdn]
          rw [if_pos (by simp [badB, hp, h])] at ih
          exact ih
  have := key (nE r) (Nat.le_refl _)
  rw [Nat.sub_self, zB_n] at this
  exact this
theorem sm_check (s : Int64) : SmI bX10_check mX10_check bX11_check mX11_check [vJ s] := by
  intro X w x m r hA
  have hc := hA.2.2.2.2.1
  have hE := hA.2.2.2.2.2.2.2.1
  have hN := hc.2.1.2
  have step : ∀ (k i : Nat) (w' : Wd) (ans fnd : Int32), i + k = nE r → AT w' x m r (zT r i) → ((fnd = 0 ∧ lst (badB r) 0 i = 0 ∧ ans = (if s = sO r then 0 else -1)) ∨ (fnd = 1 ∧ lst (badB r) 0 i ≠ 0 ∧ ans = nI (lst (badB r) 0 i))) → jX10_check_21 X (fun v w1 => ∃ r', AT w1 x m r r' ∧ CM X w1 m bX11_check mX11_check [vJ s] r (pI fun u r1 => u = v ∧ Pe r' r1)) x ans fnd (nI i) w' := by
    intro k
    induction k with
    | zero =>
      intro i w' ans fnd hi hT hf
      have hC := hT.2.2.1
      have hin : i = nE r := by omega
      refine tX10_check_21 X _ _ _ _ _ w' ⟨hC.1.1, fun _ => (c_settle w' x 0 hC.1.1).I ?_, fun q => ?_⟩
      · rintro v w2 ⟨rfl, rfl⟩
        have hT2 := AT_st 0 hT
        refine ⟨_, hT2, (s_check hT2.1.1 r hc hE s).I ?_⟩
        rintro u r1 ⟨rfl, rfl⟩
        rw [hin] at hf ⊢
        refine ⟨?_, Pe.rf _⟩
        rcases hf with ⟨-, h, rfl⟩ | ⟨-, h, rfl⟩
        · simp [chkA, h]
        · simp [chkA, h]
      · exfalso
        rw [hC.2.1.2.1] at q
        have q : ¬ sS r 30 ≤ nI i := q
        rw [hc.2.1.1, nI_leI (by omega) (by omega)] at q
        omega
    | succ k ih =>
      intro i w' ans fnd hi hT hf
      have hC := hT.2.2.1
      have hic : (nI i).toNatClampNeg = i := nI_clamp (by omega)
      have hCe := hT.2.2.2.1.2.1 (i + 1) (by omega) (by show i + 1 ≤ nE r; omega)
      have hea : xR w' (wR w' 10 1 x) i = eA w' x (i + 1) := rfl
      have h0 := K_nz hT.2.1.1 hCe.1.1
      have hI := hE (i + 1) (by omega) (by omega)
      have hT2 : AT (sJ w' 2 12 (eA w' x (i + 1)) 0) x m r (zT r (i + 1)) := by
        have := AT_uJ (r' := zT r i) (Or.inr (Or.inr ⟨rfl, rfl⟩)) (e := i + 1) (by omega) (by show i + 1 ≤ nE r; omega) 0 hT (show RIx (zT r i) from hT.2.2.2.2.2.2.1.2.2.2.2.2)
        rw [zT_s] at this
        exact this
      have hup := lst_up (badB r) i 0
      rw [Nat.zero_add] at hup
      have hJ : wJ w' 2 12 (eA w' x (i + 1)) = rJ r 63 (i + 1) := by
        rw [hCe.2.1.2.2.2.2, zT_J, if_neg (by omega)]
      have hJ2 : wJ w' 2 11 (eA w' x (i + 1)) = rJ r 62 (i + 1) := by
        rw [hCe.2.1.2.2.2.1, zT_J, if_neg (by omega)]
      have hpar : wR w' 2 2 (eA w' x (i + 1)) = 0 ↔ paR r (i + 1) = 0 := by
        rw [hCe.1.2.2.2]
        exact par0 hT.2.1.1 hT.2.2.2.2.2.2.2.1 hT.2.2.2.1.2.1 (n := i + 1) (by omega) (by show i + 1 ≤ nE r; omega)
      refine tX10_check_21 X _ _ _ _ _ w' ?_
      rw [hic, hea, hJ, hJ2, hpar, lg_eq, hC.2.1.2.1, ← nI_succ]
      refine ⟨hC.1.1, fun q => ?_, fun _ => ⟨hC.1.2.2.2.1, ?_, fun _ => ⟨fun hf1 => ⟨hCe.1.1, ?_⟩, fun hf0 => ⟨hCe.1.1, fun hp => ?_, fun hp => ⟨fun hb => ?_, fun hb => ?_⟩⟩⟩, fun q => absurd q h0⟩⟩
      · exfalso
        have q : sS r 30 ≤ nI i := q
        rw [hc.2.1.1, nI_leI (by omega) (by omega)] at q
        omega
      · rw [hC.1.2.2.2.2.1]; exact inN (by omega) (by omega)
      · rintro w2 rfl
        rcases hf with ⟨h, -⟩ | ⟨h9, h, h2⟩
        · exact absurd h hf1
        · refine ih (i + 1) _ _ _ (by omega) hT2 (Or.inr ⟨?_, ?_, ?_⟩)
          · exact h9
          · rw [hup, if_neg h]; exact h
          · rw [hup, if_neg h]; exact h2
      · rintro w2 rfl
        rcases hf with ⟨h, h2, h3⟩ | ⟨h, -⟩
        · exact ih (i + 1) _ _ _ (by omega) hT2 (Or.inl ⟨h, by rw [hup, if_pos h2, if_neg (by simp [badB, hp])], h3⟩)
        · rw [h] at hf0; exact absurd hf0 (by decide)
      · rintro w2 rfl
        rcases hf with ⟨h, h2, h3⟩ | ⟨h, -⟩
        · exact ih (i + 1) _ _ _ (by omega) hT2 (Or.inl ⟨h, by rw [hup, if_pos h2, if_neg (by simp [badB, hb])], h3⟩)
        · rw [h] at hf0; exact absurd hf0 (by decide)
      · rintro w2 rfl
        rcases hf with ⟨h, h2, h3⟩ | ⟨h, -⟩
        · refine ih (i + 1) _ _ _ (by omega) hT2 (Or.inr ⟨rfl, ?_, ?_⟩)
          · rw [hup, if_pos h2, if_pos (by simp [badB, hp, hb])]; omega
          · rw [hup, if_pos h2, if_pos (by simp [badB, hp, hb])]; exact hCe.1.2.1
        · rw [h] at hf0; exact absurd hf0 (by decide)
  have hC := hA.2.2.1
  have hA0 : AT w x m r (zT r 0) := by rw [zT_0]; exact hA
  refine oX10_check X _ x s w ⟨hC.1.1, ?_⟩
  rw [lg_eq, hC.2.1.2.2.2.2.2.2.2.1]
  exact ⟨fun h => step (nE r) 0 w _ _ (by omega) hA0 (Or.inl ⟨rfl, rfl, by simp [h]⟩), fun h => step (nE r) 0 w _ _ (by omega) hA0 (Or.inl ⟨rfl, rfl, by simp [h]⟩)⟩
