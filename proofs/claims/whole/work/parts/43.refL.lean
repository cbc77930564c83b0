/-! ===== lies; the leaves of an entry; sums over them ===== -/
theorem lg_eq (x y : Int64) : lg_cmp x y = 0 ↔ x = y := by
  unfold lg_cmp
  constructor
  · intro h
    split at h
    · cases h
    · split at h
      · assumption
      · cases h
  · intro h
    subst h
    rw [if_neg (by show ¬ x < x; rw [Int64.lt_iff_toInt_lt]; omega), if_pos rfl]
theorem lg_lt (x y : Int64) : lg_cmp x y < 0 ↔ x < y := by
  have h := lg_cmp_ge x y
  have h1 : (lg_cmp x y < 0) ↔ ¬ (0 ≤ lg_cmp x y) := by rw [Int32.lt_iff_toInt_lt, Int32.le_iff_toInt_le]; omega
  rw [h1, h, Int64.lt_iff_toInt_lt, Int64.le_iff_toInt_le]; omega
theorem lg_le (x y : Int64) : lg_cmp x y ≤ 0 ↔ x ≤ y := by
  unfold lg_cmp
  by_cases h1 : x > y
  · rw [if_pos h1]
    have h1' : y < x := h1
    constructor
    · intro h; exact absurd h (by decide)
    · intro h; rw [Int64.le_iff_toInt_le] at h; rw [Int64.lt_iff_toInt_lt] at h1'; omega
  · rw [if_neg h1]
    have h1' : ¬ y < x := h1
    constructor
    · intro _; rw [Int64.lt_iff_toInt_lt] at h1'; rw [Int64.le_iff_toInt_le]; omega
    · intro _; split <;> decide
theorem lg_gt (x y : Int64) : 0 < lg_cmp x y ↔ y < x := by
  have h := lg_le x y
  have h1 : (0 < lg_cmp x y) ↔ ¬ (lg_cmp x y ≤ 0) := by rw [Int32.lt_iff_toInt_lt, Int32.le_iff_toInt_le]; omega
  rw [h1, h, Int64.lt_iff_toInt_lt, Int64.le_iff_toInt_le]; omega
theorem lg_ge (x y : Int64) : 0 ≤ lg_cmp x y ↔ y ≤ x := lg_cmp_ge x y
/-- the bit of a parcel -/
def bitB (b : Int64) (p : Nat) : Bool := !(decide ((b >>> ((nI p).toInt64 &&& 63)) &&& 1 = 0))
def liesB (r : Rs) (dy as : Int32) (e p : Nat) : Bool := bitB (rJ r 10 (whR r e)) p && !(decide (¬ rI r 1 (60 * foR r e + p) = 0)) && livB r dy as e && hloB r dy as p e
section S1
variable {X : Cx} {w0 : Wd} {m : Nat}
theorem s_lies (hS : Sh w0 m) (r : Rs) (hc : RIc r) (hE : RIE r) (e p : Nat) (hp : p < 60) (h1 : 1 ≤ e) (h2 : e ≤ nE r) : CM X w0 m bX11_lies mX11_lies [vI (nI e), vI (nI p)] r (pI fun x r1 => x = bI (liesB r (sS r 45) (sS r 46) e p) ∧ r1 = r) := by
  have hN := hc.2.1.2
  have hF := hc.1.2
  have hI := hE e h1 h2
  have he' : (nI e).toNatClampNeg = e := nI_clamp (by omega)
  have hw : whR r e < 301 := by have := hI.2.1.2.1; omega
  have hw' : (nI (whR r e)).toNatClampNeg = whR r e := nI_clamp (by omega)
  have hf := hI.2.2.2.1.1
  have hk : (nI (60 * foR r e + p)).toNatClampNeg = 60 * foR r e + p := nI_clamp (by omega)
  refine pX11_lies X w0 m hS _ _ _ r ?_
  rw [he', hI.1.2.1, hw', hI.1.1, nI60, hk]
  simp only [lg_eq]
  refine ⟨inN (by omega) (by omega), inN (by omega) (by omega), inN hw (by omega), fun h => ?_, fun h => ⟨inN (by omega) (by omega), fun h3 => (s_lives hS r e (by omega) ⟨_, hw, hI.1.2.1⟩).I ?_, fun h3 => ?_⟩⟩
  · simp [liesB, bitB, h, bI]
  · rintro x r1 ⟨rfl, rfl⟩
    refine ⟨fun h4 => ?_, fun h4 => (s_hasLeafOn hS r1 hc hE p hp 300 e h1 h2 (by omega)).I ?_⟩
    · rw [bI_0] at h4
      simp [liesB, h4, bI]
    · rintro x r2 ⟨rfl, rfl⟩
      rw [bI_n] at h4
      refine ⟨fun h5 => ?_, fun h5 => ?_⟩
      · rw [bI_0] at h5
        simp [liesB, h5, bI]
      · rw [bI_n] at h5
        simp [liesB, bitB, h, h3, h4, h5, bI]
  · simp [liesB, h3, bI]
/-- one leaf more -/
def add1 (r : Rs) (x : Nat) : Rs := uS (uI r 47 (sS r 48).toNatClampNeg (nI x)) 48 (sS r 48 + 1)
def addL (r : Rs) (l : List Nat) : Rs := l.foldl add1 r
theorem add1_I (r : Rs) (x k : Nat) (hk : k ≠ 47) : rI (add1 r x) k = rI r k := by
  funext i
  show (if k = 47 ∧ i = _ then _ else rI r k i) = _
  rw [if_neg (fun h => hk h.1)]
theorem addL_I (l : List Nat) : ∀ (r : Rs) (k : Nat), k ≠ 47 → rI (addL r l) k = rI r k := by
  induction l with
  | nil => intro r k _; rfl
  | cons x t ih => intro r k hk; exact (ih (add1 r x) k hk).trans (add1_I r x k hk)
theorem addL_J (l : List Nat) : ∀ (r : Rs), rJ (addL r l) = rJ r ∧ sO (addL r l) = sO r := by
  induction l with
  | nil => intro r; exact ⟨rfl, rfl⟩
  | cons x t ih => intro r; exact ih (add1 r x)
theorem addL_S (l : List Nat) : ∀ (r : Rs) (k : Nat), k ≠ 48 → sS (addL r l) k = sS r k := by
  induction l with
  | nil => intro r k _; rfl
  | cons x t ih =>
    intro r k hk
    refine (ih (add1 r x) k hk).trans ?_
    show (if k = 48 then _ else sS r k) = _
    rw [if_neg hk]
theorem addL_48 (l : List Nat) : ∀ (r : Rs) (k : Nat), sS r 48 = nI k → sS (addL r l) 48 = nI (k + l.length) := by
  induction l with
  | nil => intro r k h; exact h
  | cons x t ih =>
    intro r k h
    have h1 : sS (add1 r x) 48 = nI (k + 1) := by
      show (if (48 : Nat) = 48 then sS r 48 + 1 else sS r 48) = _
      rw [if_pos rfl, h, ← nI_succ]
    have h2 := ih (add1 r x) (k + 1) h1
    rw [List.length_cons, show k + (t.length + 1) = k + 1 + t.length by omega]
    exact h2
theorem addL_47 (l : List Nat) : ∀ (r : Rs) (k : Nat), sS r 48 = nI k → k + l.length < 2 ^ 31 → ∀ i, rI (addL r l) 47 i = if h : k ≤ i ∧ i < k + l.length then nI (l.getD (i - k) 0) else rI r 47 i := by
  induction l with
  | nil => intro r k h hl i; rw [dif_neg (by rintro ⟨a, b⟩; rw [List.length_nil] at b; omega)]; rfl
  | cons x t ih =>
    intro r k h hl i
    rw [List.length_cons] at hl
    have h1 : sS (add1 r x) 48 = nI (k + 1) := by
      show (if (48 : Nat) = 48 then sS r 48 + 1 else sS r 48) = _
      rw [if_pos rfl, h, ← nI_succ]
    have h2 := ih (add1 r x) (k + 1) h1 (by omega) i
    have h3 : rI (add1 r x) 47 i = if i = k then nI x else rI r 47 i := by
      show (if 47 = 47 ∧ i = (sS r 48).toNatClampNeg then nI x else rI r 47 i) = _
      rw [h, nI_clamp (by omega)]
      simp
    refine (show rI (addL r (x :: t)) 47 i = _ from h2).trans ?_
    rw [h3, List.length_cons]
    by_cases hi : i = k
    · subst hi
      rw [dif_neg (by omega), if_pos rfl, dif_pos (by omega)]
      simp
    · by_cases hr : k + 1 ≤ i ∧ i < k + 1 + t.length
      · rw [dif_pos hr, dif_pos (by omega)]
        rw [show i - k = (i - (k + 1)) + 1 by omega]
        simp
      · rw [dif_neg hr, if_neg hi, dif_neg (by omega)]
theorem s_gather (hS : Sh w0 m) : ∀ (n : Nat) (r : Rs) (e : Nat), RIc r → RIE r → 1 ≤ e → e ≤ nE r → nE r ≤ e + n → (∃ k, sS r 48 = nI k ∧ k + (lvs (fiR r) e).length ≤ 301) → CM X w0 m (n + 2, 0, 0) mX11_gather [vI (nI e)] r (pV fun r1 => r1 = addL r (lvs (fiR r) e)) := by
  have same : ∀ (r : Rs) (l : List Nat), (RIc r → RIc (addL r l)) ∧ (RIE r → RIE (addL r l)) ∧ nE (addL r l) = nE r ∧ fiR (addL r l) = fiR r := by
    intro r l
    have i3 : ∀ k, k ≠ 47 → ix (addL r l) k = ix r k := fun k hk => by funext i; unfold ix; rw [addL_I l r k hk]
    have s2 : ∀ k, k ≠ 48 → sS (addL r l) k = sS r k := fun k hk => addL_S l r k hk
    have n1 : nE (addL r l) = nE r := by unfold nE; rw [s2 30 (by decide)]
    have n2 : nF (addL r l) = nF r := by unfold nF; rw [s2 2 (by decide)]
    have n3 : nP (addL r l) = nP r := by unfold nP; rw [s2 38 (by decide)]
    refine ⟨fun h => ?_, fun h e h1 h2 => ?_, n1, by funext e; show ix (addL r l) 9 e = _; rw [i3 9 (by decide)]⟩
    · unfold RIc; rw [n1, n2, n3, s2 2 (by decide), s2 30 (by decide), s2 38 (by decide)]; exact h
    · rw [n1] at h2
      have h3 := h e h1 h2
      unfold RIe fiR paR whR foR at *
      simp only [i3 4 (by decide), i3 5 (by decide), i3 6 (by decide), i3 9 (by decide), i3 24 (by decide), i3 25 (by decide), addL_I l r 3 (by decide), addL_I l r 4 (by decide), addL_I l r 5 (by decide), addL_I l r 6 (by decide), addL_I l r 9 (by decide), addL_I l r 21 (by decide), addL_I l r 24 (by decide), addL_I l r 25 (by decide), n1, n2]
      exact h3
  intro n
  induction n with
  | zero =>
    intro r e hc hE h1 h2 h3 hk
    obtain ⟨k, hk, hl⟩ := hk
    have hN := hc.2.1.2
    have H := HT_of hc hE
    have hI := hE e h1 h2
    have hf : fiR r e = 0 := by
      rcases Nat.eq_zero_or_pos (fiR r e) with h | h
      · exact h
      · have := H.kids h1 h2 (by omega); omega
    have he' : (nI e).toNatClampNeg = e := nI_clamp (by omega)
    rw [lvs_leaf H hf] at hl
    have hl : k + 1 ≤ 301 := hl
    refine pX11_gather X w0 m hS _ 0 _ r ?_
    rw [he']
    refine ⟨inN (by omega) (by omega), fun h => absurd (by rw [hI.1.2.2.2.1, hf]; rfl) h, fun _ => ⟨by rw [hk]; exact inN (by omega) (by omega), ?_⟩⟩
    rintro r1 rfl r2 rfl
    rw [lvs_leaf H hf]
    rfl
  | succ n ih =>
    intro r e hc hE h1 h2 h3 hk
    obtain ⟨k, hk, hl⟩ := hk
    have hN := hc.2.1.2
    have H := HT_of hc hE
    have hI := hE e h1 h2
    have he' : (nI e).toNatClampNeg = e := nI_clamp (by omega)
    refine pX11_gather X w0 m hS _ (n + 1) _ r ?_
    rw [he', hI.1.2.2.2.1]
    refine ⟨inN (by omega) (by omega), fun h => ?_, fun h => ?_⟩
    · have hf : fiR r e ≠ 0 := fun q => h (by rw [q]; rfl)
      have hki := H.kids h1 h2 hf
      have hap := lvs_kids H h1 h2 hf
      rw [hap, List.length_append] at hl
      refine ⟨inN (by omega) (by omega), (ih r (fiR r e) hc hE (by omega) (by omega) (by omega) ⟨k, hk, by omega⟩).V ?_⟩
      rintro r1 rfl
      obtain ⟨q1, q2, q3, q4⟩ := same r (lvs (fiR r) (fiR r e))
      refine ⟨inN (by omega) (by omega), ?_⟩
      rw [addL_I _ _ 9 (by decide), hI.1.2.2.2.1, ← nI_succ]
      refine (ih (addL r (lvs (fiR r) (fiR r e))) (fiR r e + 1) (q1 hc) (q2 hE) (by omega) (by rw [q3]; omega) (by rw [q3]; omega) ⟨_, addL_48 _ _ _ hk, by rw [q4]; omega⟩).V ?_
      rintro r2 rfl
      rw [hap, q4]
      unfold addL
      rw [List.foldl_append]
    · have hf : fiR r e = 0 := by rw [nI_z (by have := hI.2.2.1.2.2; omega)] at h; exact h
      rw [lvs_leaf H hf] at hl
      have hl : k + 1 ≤ 301 := hl
      refine ⟨by rw [hk]; exact inN (by omega) (by omega), ?_⟩
      rintro r1 rfl r2 rfl
      rw [lvs_leaf H hf]
      rfl
/-- the leaves of e, laid out -/
def setL (r : Rs) (e : Nat) : Rs := addL (uS r 48 0) (lvs (fiR r) e)
theorem s_leavesOf (hS : Sh w0 m) (r : Rs) (hc : RIc r) (hE : RIE r) (e : Nat) (h1 : 1 ≤ e) (h2 : e ≤ nE r) : CM X w0 m bX11_leavesOf mX11_leavesOf [vI (nI e)] r (pV fun r1 => r1 = setL r e) := by
  have hN := hc.2.1.2
  refine pX11_leavesOf X w0 m hS _ _ r ?_
  rintro r1 rfl
  have hl := lvs_len (HT_of hc hE) h1 h2
  exact (s_gather hS 300 (uS r 48 0) e hc hE h1 h2 (by show nE r ≤ _; omega) ⟨0, rfl, by show 0 + (lvs (fiR r) e).length ≤ 301; omega⟩)
end S1
