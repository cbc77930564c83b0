/-! ===== the reference's invariant; its reads over the tree ===== -/
def nF (r : Rs) : Nat := (sS r 2).toNatClampNeg
def nE (r : Rs) : Nat := (sS r 30).toNatClampNeg
def nP (r : Rs) : Nat := (sS r 38).toNatClampNeg
abbrev fiR (r : Rs) : Nat → Nat := fun e => ix r 9 e
abbrev paR (r : Rs) : Nat → Nat := fun e => ix r 6 e
abbrev whR (r : Rs) : Nat → Nat := fun e => ix r 5 e
abbrev foR (r : Rs) : Nat → Nat := fun e => ix r 4 e
def RIc (r : Rs) : Prop := (sS r 2 = nI (nF r) ∧ nF r ≤ 40) ∧ (sS r 30 = nI (nE r) ∧ nE r ≤ 300) ∧ (sS r 38 = nI (nP r) ∧ nP r ≤ 100)
def RIf (r : Rs) : Prop := ∀ f, f < nF r → rI r 0 f = nI (ix r 0 f) ∧ 1 ≤ ix r 0 f ∧ ix r 0 f ≤ 60
/-- what the leaves of an entry owe together -/
def lsum (r : Rs) (e : Nat) : Int := ((lvs (fiR r) e).map (fun y => (rJ r 8 y).toInt)).sum
/-- a caution and what it keeps lie in one folio; only a claim goes ahead; sums and rates are in their ranges -/
def RIx (r : Rs) : Prop := ∀ e, 1 ≤ e → e ≤ nE r →
  ((ix r 24 e ≠ 0 → foR r (ix r 24 e) = foR r e) ∧ (rI r 3 e ≠ 5 → rI r 23 e = -1)) ∧
  (0 ≤ rJ r 8 e ∧ (rI r 3 e = 4 → paR r e = 0 ∧ rJ r 8 e ≤ 19999999999980 ∧ (rI r 18 e = 0 → rJ r 8 e ≤ 999999999999)) ∧ (paR r e = 0 → rI r 3 e ≠ 4 → lsum r e ≤ 999999999999)) ∧
  (paR r e = 0 → (rI r 3 e ≠ 4 → rI r 3 e ≠ 6 → rI r 11 e ≤ 200) ∧ 1 ≤ rI r 21 e ∧ rI r 21 e ≤ 30 ∧ 0 ≤ rJ r 12 e ∧ rJ r 12 e ≤ 999999999999)
/-- flags; what is not yet entered is untouched; a caution has no parts -/
def RIb (r : Rs) : Prop := (∀ i, (rI r 1 i = 0 ∨ rI r 1 i = 1) ∧ (rI r 18 i = 0 ∨ rI r 18 i = 1) ∧ (rI r 19 i = 0 ∨ rI r 19 i = 1)) ∧
  (∀ e, nE r < e → rI r 18 e = 0 ∧ rI r 19 e = 0 ∧ rI r 24 e = 0 ∧ rI r 25 e = 0 ∧ rJ r 62 e = 0 ∧ rJ r 63 e = 0) ∧ (∀ f p, nF r ≤ f → p < 60 → rI r 1 (60 * f + p) = 0) ∧
  (∀ e, 1 ≤ e → e ≤ nE r → rI r 3 e = 6 → paR r e = 0) ∧ (∀ e, 1 ≤ e → e ≤ nE r → paR r e = 0 → 0 ≤ rI r 11 e) ∧ RIx r
/-- an entry: its indices, the tree, what it has of its whole -/
def RIe (r : Rs) (e : Nat) : Prop :=
  (rI r 4 e = nI (foR r e) ∧ rI r 5 e = nI (whR r e) ∧ rI r 6 e = nI (paR r e) ∧ rI r 9 e = nI (fiR r e) ∧ rI r 24 e = nI (ix r 24 e) ∧ rI r 25 e = nI (ix r 25 e)) ∧
  (1 ≤ whR r e ∧ whR r e ≤ e ∧ whR r (whR r e) = whR r e ∧ (paR r e = 0 ↔ whR r e = e) ∧ (paR r e ≠ 0 → whR r (paR r e) = whR r e)) ∧
  (paR r e < e ∧ (paR r e ≠ 0 → fiR r (paR r e) = e ∨ fiR r (paR r e) + 1 = e) ∧ (fiR r e ≠ 0 → e < fiR r e ∧ fiR r e + 1 ≤ nE r ∧ paR r (fiR r e) = e ∧ paR r (fiR r e + 1) = e)) ∧
  (foR r e < nF r ∧ foR r e = foR r (whR r e) ∧ rI r 3 e = rI r 3 (whR r e) ∧ 1 ≤ rI r 3 e ∧ rI r 3 e ≤ 6 ∧ (rI r 3 e ≠ 5 → rI r 21 (whR r e) = 2)) ∧
  (ix r 24 e ≤ nE r ∧ ix r 25 e ≤ nE r ∧ (ix r 24 e = 0 ∨ ix r 25 e = 0) ∧ (ix r 24 e ≠ 0 → rI r 3 e = 6 ∧ paR r e = 0 ∧ paR r (ix r 24 e) = 0 ∧ ix r 25 (ix r 24 e) = e) ∧ (ix r 25 e ≠ 0 → rI r 3 e ≠ 6 ∧ paR r e = 0 ∧ paR r (ix r 25 e) = 0 ∧ ix r 24 (ix r 25 e) = e))
def RIE (r : Rs) : Prop := ∀ e, 1 ≤ e → e ≤ nE r → RIe r e
theorem HT_of {r : Rs} (hc : RIc r) (hE : RIE r) : HT (fiR r) (paR r) (nE r) := ⟨hc.2.1.2, fun e h1 h2 => (hE e h1 h2).2.2.1⟩
theorem nI60 (e p : Nat) : (60 : Int32) * nI e + nI p = nI (60 * e + p) := by
  show Int32.ofNat 60 * Int32.ofNat e + Int32.ofNat p = Int32.ofNat (60 * e + p)
  rw [← Int32.ofNat_mul, ← Int32.ofNat_add]
theorem nI_z {e : Nat} (h : e < 2 ^ 31) : nI e = 0 ↔ e = 0 := by
  rw [← nI_0]; exact nI_eq h (by omega)
theorem inN {i n : Nat} (h : i < n) (hn : n < 2 ^ 31) : vp_in (nI i) n := vp_in_nI h hn
/-- e, or what it is a part of, is released of the parcel p -/
def offB (r : Rs) (dy as : Int32) (p e : Nat) : Bool :=
  if h : e ≠ 0 ∧ paR r e < e then (if cntB dy as (rI r 28 (60 * e + p)) (rI r 29 (60 * e + p)) then true else offB r dy as p (paR r e)) else false
termination_by e
decreasing_by omega
theorem s_isOff {X : Cx} {w0 : Wd} {m : Nat} (hS : Sh w0 m) (r : Rs) (hc : RIc r) (hE : RIE r) (p e : Nat) (hp : p < 60) (he : e ≤ nE r) : CM X w0 m bX11_isOff mX11_isOff [vI (nI e), vI (nI p)] r (pI fun x r1 => x = bI (offB r (sS r 45) (sS r 46) p e) ∧ r1 = r) := by
  refine pX11_isOff X w0 m hS _ _ _ r ?_
  have hN := hc.2.1.2
  induction e using Nat.strongRecOn with
  | ind e ih =>
    refine rX11_isOff_2 X w0 m hS _ _ _ r ⟨fun h => ?_, fun h => ?_⟩
    · rw [nI_z (by omega)] at h
      subst h
      refine ⟨?_, rfl⟩
      rw [offB, dif_neg (fun h => h.1 rfl)]
      rfl
    · rw [nI_z (by omega)] at h
      have hI := hE e (by omega) he
      have hk : (nI (60 * e + p)).toNatClampNeg = 60 * e + p := nI_clamp (by omega)
      have he' : (nI e).toNatClampNeg = e := nI_clamp (by omega)
      have hv : vp_in (nI (60 * e + p)) 18060 := inN (by omega) (by omega)
      rw [nI60, hk, he']
      refine ⟨hv, hv, (s_counts hS r _ _).I ?_⟩
      rintro x r1 ⟨rfl, rfl⟩
      refine ⟨fun h1 => ⟨inN (by omega) (by omega), ?_⟩, fun h1 => ?_⟩
      · rw [bI_0] at h1
        rw [hI.1.2.2.1]
        have h2 := ih (paR r1 e) hI.2.2.1.1 (Nat.le_trans (Nat.le_of_lt hI.2.2.1.1) he)
        rw [offB, dif_pos ⟨h, hI.2.2.1.1⟩, if_neg (by rw [h1]; decide)]
        exact h2
      · rw [bI_n] at h1
        refine ⟨?_, rfl⟩
        rw [offB, dif_pos ⟨h, hI.2.2.1.1⟩, if_pos h1]
        rfl
/-- a leaf at e or below it is not released of p -/
def hloB (r : Rs) (dy as : Int32) (p e : Nat) : Bool := (lvs (fiR r) e).any (fun x => !(offB r dy as p x))
theorem s_hasLeafOn {X : Cx} {w0 : Wd} {m : Nat} (hS : Sh w0 m) (r : Rs) (hc : RIc r) (hE : RIE r) (p : Nat) (hp : p < 60) : ∀ (n e : Nat), 1 ≤ e → e ≤ nE r → nE r ≤ e + n → CM X w0 m (n + 3, 0, 0) mX11_hasLeafOn [vI (nI e), vI (nI p)] r (pI fun x r1 => x = bI (hloB r (sS r 45) (sS r 46) p e) ∧ r1 = r) := by
  have hN := hc.2.1.2
  have H := HT_of hc hE
  intro n
  induction n with
  | zero =>
    intro e h1 h2 h3
    have hI := hE e h1 h2
    have hf : fiR r e = 0 := by
      rcases Nat.eq_zero_or_pos (fiR r e) with h | h
      · exact h
      · have := H.kids h1 h2 (by omega); omega
    have he' : (nI e).toNatClampNeg = e := nI_clamp (by omega)
    refine pX11_hasLeafOn X w0 m hS _ 0 _ _ r ?_
    rw [he']
    refine ⟨inN (by omega) (by omega), fun h => absurd (by rw [hI.1.2.2.2.1, hf]; rfl) h, fun _ => (s_isOff hS r hc hE p e hp h2).I ?_⟩
    rintro x r1 ⟨rfl, rfl⟩
    refine ⟨fun h => ?_, fun h => ?_⟩
    · rw [bI_n] at h
      simp [hloB, lvs_leaf H hf, h, bI]
    · rw [bI_0] at h
      simp [hloB, lvs_leaf H hf, h, bI]
  | succ n ih =>
    intro e h1 h2 h3
    have hI := hE e h1 h2
    have he' : (nI e).toNatClampNeg = e := nI_clamp (by omega)
    refine pX11_hasLeafOn X w0 m hS _ (n + 1) _ _ r ?_
    rw [he', hI.1.2.2.2.1]
    refine ⟨inN (by omega) (by omega), fun h => ?_, fun h => (s_isOff hS r hc hE p e hp h2).I ?_⟩
    · have hf : fiR r e ≠ 0 := fun q => h (by rw [q]; rfl)
      have hk := H.kids h1 h2 hf
      refine ⟨inN (by omega) (by omega), (ih (fiR r e) (by omega) (by omega) (by omega)).I ?_⟩
      rintro x r1 ⟨rfl, rfl⟩
      refine ⟨fun h4 => ?_, fun h4 => ⟨inN (by omega) (by omega), ?_⟩⟩
      · rw [bI_n] at h4
        unfold hloB at h4
        simp [hloB, lvs_kids H h1 h2 hf, h4, bI]
      · rw [bI_0] at h4
        rw [hI.1.2.2.2.1, ← nI_succ]
        refine (ih (fiR r1 e + 1) (by omega) (by omega) (by omega)).I ?_
        rintro x r2 ⟨rfl, rfl⟩
        unfold hloB at h4
        refine ⟨fun h5 => ?_, fun h5 => ?_⟩
        · rw [bI_0] at h5
          unfold hloB at h5
          simp [hloB, lvs_kids H h1 h2 hf, h4, h5, bI]
        · rw [bI_n] at h5
          unfold hloB at h5
          simp [hloB, lvs_kids H h1 h2 hf, h4, h5, bI]
    · have hf : fiR r e = 0 := by rw [nI_z (by have := hI.2.2.1.2.2; omega)] at h; exact h
      rintro x r1 ⟨rfl, rfl⟩
      refine ⟨fun h => ?_, fun h => ?_⟩
      · rw [bI_n] at h
        simp [hloB, lvs_leaf H hf, h, bI]
      · rw [bI_0] at h
        simp [hloB, lvs_leaf H hf, h, bI]
