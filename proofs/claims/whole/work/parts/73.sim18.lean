/-! ===== enter, what is refused ===== -/
theorem and1_1 (x : Int64) : x &&& 1 = 1 ↔ ¬ x &&& 1 = 0 := by
  constructor
  · intro h z; rw [h] at z; exact absurd z (by decide)
  · intro h
    rw [b6_and1] at h
    have hb : b6 x 0 = true := by simpa using h
    apply b6_ext
    intro i hi
    rw [b6_and, b6_1 i hi]
    by_cases h0 : i = 0
    · subst h0; simp [hb]
    · simp [h0]
def tA (r : Rs) (f : Nat) (P : Int64) (i : Nat) : Nat → Bool
  | 0 => false
  | j + 1 => (bitB P i && decide (¬ rI r 1 (60 * f + i) = 0)) || tA r f P (i + 1) j
theorem tA_iff (r : Rs) (f : Nat) (P : Int64) : ∀ (j i : Nat), tA r f P i j = true ↔ ∃ p, i ≤ p ∧ p < i + j ∧ bitB P p = true ∧ ¬ rI r 1 (60 * f + p) = 0 := by
  intro j
  induction j with
  | zero => intro i; simp [tA]; intro p h1 h2; omega
  | succ j ih =>
    intro i
    unfold tA
    rw [Bool.or_eq_true, ih]
    constructor
    · rintro (h | ⟨p, h1, h2, h3⟩)
      · simp at h; exact ⟨i, Nat.le_refl _, by omega, h.1, h.2⟩
      · exact ⟨p, by omega, by omega, h3⟩
    · rintro ⟨p, h1, h2, h3, h4⟩
      by_cases hp : p = i
      · subst hp; left; simp [h3, h4]
      · right; exact ⟨p, by omega, by omega, h3, h4⟩
def bitsF (r : Rs) (f : Nat) (P : Int64) : Int32 := if P = 0 then 2 else if ¬ P >>> ((nI (ix r 0 f)).toInt64 &&& 63) = 0 then 2 else if tA r f P 0 (ix r 0 f) then 3 else 0
theorem s_wrongBits {X : Cx} {w0 : Wd} {m : Nat} (hS : Sh w0 m) (r : Rs) (hc : RIc r) (hf : RIf r) (f : Nat) (P : Int64) (h : f < nF r) : CM X w0 m bX11_wrongBits mX11_wrongBits [vI (nI f), vJ P] r (pI fun v r1 => v = bitsF r f P ∧ r1 = r) := by
  have hF := hc.1.2
  have hs := hf f h
  have hfc : (nI f).toNatClampNeg = f := nI_clamp (by omega)
  have hv : vp_in (nI f) 40 := inN (by omega) (by omega)
  refine pX11_wrongBits X w0 m hS _ _ P r ?_
  rw [lg_eq, lg_eq, hfc, hs.1]
  refine ⟨fun h0 => by simp [bitsF, h0], fun h0 => ⟨hv, fun h1 => ?_, fun h1 => by simp [bitsF, h0, h1]⟩⟩
  have key : ∀ (j i : Nat), i + j = ix r 0 f → ∀ A : Int32 → Rs → Prop, A (if tA r f P i j then 3 else 0) r → iX11_wrongBits_24 X w0 m A (nI f) P (nI i) r := by
    intro j
    induction j with
    | zero =>
      intro i hi A hA
      refine rX11_wrongBits_24 X w0 m hS _ _ _ _ r ?_
      rw [hfc, hs.1, nI_leI (by omega) (by omega)]
      refine ⟨hv, fun _ => ?_, fun q => absurd (by omega) q⟩
      simpa [tA] using hA
    | succ j ih =>
      intro i hi A hA
      refine rX11_wrongBits_24 X w0 m hS _ _ _ _ r ?_
      rw [hfc, hs.1, nI_leI (by omega) (by omega), lg_eq, and1_1, nI60, nI_clamp (show 60 * f + i < 2 ^ 31 by omega), ← nI_succ]
      refine ⟨hv, fun q => by omega, fun _ => ⟨fun hb => ?_, fun hb => ⟨inN (by omega) (by omega), fun ht => ?_, fun ht => ?_⟩⟩⟩
      · refine ih (i + 1) (by omega) A ?_
        have : bitB P i = false := by simp at hb; simp [bitB, hb]
        simpa [tA, this] using hA
      · refine ih (i + 1) (by omega) A ?_
        simpa [tA, ht] using hA
      · have : bitB P i = true := by simp [bitB, hb]
        simpa [tA, this, ht] using hA
  refine key (ix r 0 f) 0 (by omega) _ ?_
  have h0' : ¬ P = 0 := h0
  simp [bitsF, h0', h1]
/-- what the class tests of a folio's torn parcels -/
theorem torn_iff {w : Wd} {x : Nat} {r : Rs} (hf : RIf r) (hF : CF w x r) {f : Nat} (h : f < nF r) (P : Int64) (ho : P >>> ((nI (ix r 0 f)).toInt64 &&& 63) = 0) : P &&& wJ w 3 2 (fA w x f) = 0 ↔ tA r f P 0 (ix r 0 f) = false := by
  have hs := hf f h
  have hb := (hF f h).2.2.2.1
  have hout := out_bits P (ix r 0 f) (by omega) ho
  rw [b6_zero]
  constructor
  · intro hz
    cases ht : tA r f P 0 (ix r 0 f)
    · rfl
    · obtain ⟨p, -, hp, h3, h4⟩ := (tA_iff r f P _ _).mp ht
      have h5 := hz p (by omega)
      have h6 := hb p (by omega)
      rw [ubit_b (by omega)] at h6
      rw [bitB_b (by omega)] at h3
      rw [b6_and, h3, h6] at h5
      simp [h4] at h5
  · intro ht i hi
    rw [b6_and]
    by_cases hin : i < ix r 0 f
    · have h6 := hb i (by omega)
      rw [ubit_b (by omega)] at h6
      cases h7 : b6 P i
      · rfl
      · rw [h6]
        have : ¬ ¬ rI r 1 (60 * f + i) = 0 := fun z => by
          have := (tA_iff r f P (ix r 0 f) 0).mpr ⟨i, Nat.zero_le _, by omega, by rw [bitB_b (by omega)]; exact h7, z⟩
          rw [ht] at this; cases this
        simp [this]
    · rw [hout i (by omega) hi]; rfl
def maxR (k : Int32) : Int32 := if k = 4 then 36500 else if k = 6 then 36500 else 200
def entF (r : Rs) (f : Nat) (k : Int32) (s : Int64) (rt : Int32) (P : Int64) : Int32 := if bitsF r f P ≠ 0 then bitsF r f P else if k < 1 then 5 else if 6 < k then 5 else if s < 0 then 5 else if 999999999999 < s then 5 else if rt < 0 then 5 else if ¬ rt ≤ maxR k then 5 else if nE r = 300 then 10 else 0
theorem c_enterFault {X : Cx} (w : Wd) (x : Nat) (r : Rs) (hz : wK w 0 = 0) (hC : CS w x r) (hI : RI r) (h4 : C4 w x r) (f : Nat) (k : Int32) (s : Int64) (rt : Int32) (P : Int64) (h : f < nF r) : Ct X bX10_enterFault mX10_enterFault [vR x, vR (fA w x f), vI k, vJ s, vI rt, vJ P] w (qI fun v w' => v = entF r f k s rt P ∧ w' = w) := by
  have hc := hI.1
  have hf := hI.2.1
  have hN := hc.2.1.2
  have hs := hf f h
  have hFf := h4.1 f h
  refine oX10_enterFault X _ x _ k s rt P w ⟨fun _ => ?_, fun q => absurd q (K_nz hz hFf.1)⟩
  rw [lg_eq]
  refine ⟨fun h0 => by simp [entF, bitsF, h0], fun h0 => ⟨hFf.1, oX3_allParcels X _ _ w ⟨hFf.1, ?_⟩⟩⟩
  rw [lg_eq, lg_eq, hFf.2.2.1, hs.1, mask_out P _ (by omega)]
  refine ⟨fun h1 => ⟨hFf.1, ?_⟩, fun h1 => by simp [entF, bitsF, h1]⟩
  rw [torn_iff hf h4.1 h P h1]
  refine ⟨fun h2 => ?_, fun h2 => by simp at h2; simp [entF, bitsF, h0, h1, h2]⟩
  have hb : bitsF r f P = 0 := by simp [bitsF, h0, h1, h2]
  refine ⟨fun q => by simp [entF, hb, q], fun k1 => ⟨fun q => by simp [entF, hb, q], fun k2 => oX10_isSum X _ s w ?_⟩⟩
  rw [lg_lt, lg_gt]
  refine ⟨fun q => ⟨fun _ => by simp [entF, hb, q], fun z => absurd rfl z⟩, fun s1 => ⟨fun q => ⟨fun _ => by simp [entF, hb, q], fun z => absurd rfl z⟩, fun s2 => ⟨fun z => absurd z (by decide), fun _ => ⟨fun q => by simp [entF, hb, q], fun r1 => oX10_maxRate X _ k w ?_⟩⟩⟩⟩
  have fin : ∀ M : Int32, maxR k = M → ((rt ≤ M) → wK w x = 11 ∧ (((wI w 10 4 x) < 300) → (0 : Int32) = entF r f k s rt P ∧ w = w) ∧ ((¬ (wI w 10 4 x) < 300) → (10 : Int32) = entF r f k s rt P ∧ w = w)) ∧ ((¬ rt ≤ M) → (5 : Int32) = entF r f k s rt P ∧ w = w) := by
    intro M hM
    have h300 : nI 300 = 300 := by decide
    rw [hC.2.1.2.1, hc.2.1.1, ← h300, nI_ltI (by omega) (by omega)]
    refine ⟨fun q => ⟨hC.1.1, fun z => ?_, fun z => ?_⟩, fun q => ?_⟩
    · have : ¬ nE r = 300 := by omega
      simp [entF, hb, k1, k2, s1, s2, r1, hM, q, this]
    · have : nE r = 300 := by omega
      simp [entF, hb, k1, k2, s1, s2, r1, hM, q, this]
    · simp [entF, hb, k1, k2, s1, s2, r1, hM, q]
  refine ⟨fun q => fin _ (by simp [maxR, q]), fun q => ⟨fun q2 => fin _ (by simp [maxR, q, q2]), fun q2 => fin _ (by simp [maxR, q2])⟩⟩
