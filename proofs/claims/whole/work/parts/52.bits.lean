/-! ===== Int64 by its bits ===== -/
def b6 (x : Int64) (i : Nat) : Bool := x.toBitVec.getLsbD i
theorem b6_ext {x y : Int64} (h : ∀ i, i < 64 → b6 x i = b6 y i) : x = y := Int64.toBitVec_inj.mp (BitVec.eq_of_getLsbD_eq (fun i hi => h i hi))
theorem b6_or (x y : Int64) (i : Nat) : b6 (x ||| y) i = (b6 x i || b6 y i) := by unfold b6; rw [Int64.toBitVec_or, BitVec.getLsbD_or]
theorem b6_and (x y : Int64) (i : Nat) : b6 (x &&& y) i = (b6 x i && b6 y i) := by unfold b6; rw [Int64.toBitVec_and, BitVec.getLsbD_and]
theorem b6_xor (x y : Int64) (i : Nat) : b6 (x ^^^ y) i = (b6 x i ^^ b6 y i) := by unfold b6; rw [Int64.toBitVec_xor, BitVec.getLsbD_xor]
theorem b6_big {x : Int64} {i : Nat} (h : 64 ≤ i) : b6 x i = false := BitVec.getLsbD_of_ge _ _ h
theorem b6_m1 : ∀ i, i < 64 → b6 (-1) i = true := by decide +kernel
theorem b6_0 (i : Nat) : b6 0 i = false := BitVec.getLsbD_zero
theorem b6_1 : ∀ i, i < 64 → b6 1 i = decide (i = 0) := by decide +kernel
theorem s6_l : ∀ n, n < 64 → (((nI n).toInt64 &&& 63).toBitVec.smod 64).toNat = n := by decide +kernel
theorem s6_u : ∀ n, n < 64 → (((nI n).toInt64.toUInt64 &&& Int64.toUInt64 63).toBitVec % 64).toNat = n := by decide +kernel
theorem b6_shl (n : Nat) (hn : n < 64) (x : Int64) {i : Nat} (hi : i < 64) : b6 (x <<< ((nI n).toInt64 &&& 63)) i = (decide (n ≤ i) && b6 x (i - n)) := by
  unfold b6
  rw [Int64.toBitVec_shiftLeft]
  show (x.toBitVec <<< (((nI n).toInt64 &&& 63).toBitVec.smod 64).toNat).getLsbD i = _
  rw [s6_l n hn, BitVec.getLsbD_shiftLeft]
  rcases Nat.lt_or_ge i n with h | h
  · simp [h, Nat.not_le.mpr h]
  · simp [hi, h, Nat.not_lt.mpr h]
theorem b6_ushr (n : Nat) (hn : n < 64) (x : Int64) (i : Nat) : b6 ((x.toUInt64 >>> ((nI n).toInt64.toUInt64 &&& Int64.toUInt64 63)).toInt64) i = b6 x (n + i) := by
  show (x.toUInt64 >>> ((nI n).toInt64.toUInt64 &&& Int64.toUInt64 63)).toBitVec.getLsbD i = x.toUInt64.toBitVec.getLsbD (n + i)
  rw [UInt64.toBitVec_shiftRight]
  show (x.toUInt64.toBitVec >>> (((nI n).toInt64.toUInt64 &&& Int64.toUInt64 63).toBitVec % 64).toNat).getLsbD i = _
  rw [s6_u n hn, BitVec.getLsbD_ushiftRight]
theorem b6_sshr (n : Nat) (hn : n < 64) (x : Int64) {i : Nat} (hi : i < 64) : b6 (x >>> ((nI n).toInt64 &&& 63)) i = if n + i < 64 then b6 x (n + i) else b6 x 63 := by
  unfold b6
  rw [Int64.toBitVec_shiftRight]
  show (x.toBitVec.sshiftRight (((nI n).toInt64 &&& 63).toBitVec.smod 64).toNat).getLsbD i = _
  rw [s6_l n hn, BitVec.getLsbD_sshiftRight, BitVec.msb_eq_getLsbD_last]
  simp [hi]
theorem b6_and1 (x : Int64) : x &&& 1 = 0 ↔ b6 x 0 = false := by
  constructor
  · intro h
    have := congrArg (fun y => b6 y 0) h
    simp only [b6_and, b6_0, b6_1 0 (by omega)] at this
    simpa using this
  · intro h
    apply b6_ext
    intro i hi
    rw [b6_and, b6_1 i hi, b6_0]
    by_cases h0 : i = 0
    · subst h0; simp [h]
    · simp [h0]
theorem ubit_b {b : Int64} {p : Nat} (hp : p < 64) : ubit b p = b6 b p := by
  unfold ubit
  have h := b6_and1 ((b.toUInt64 >>> ((nI p).toInt64.toUInt64 &&& Int64.toUInt64 63)).toInt64)
  rw [b6_ushr p hp, Nat.add_zero] at h
  cases hb : b6 b p
  · rw [hb] at h; simp [h]
  · rw [hb] at h; simp [h]
theorem bitB_b {b : Int64} {p : Nat} (hp : p < 64) : bitB b p = b6 b p := by
  unfold bitB
  have h := b6_and1 (b >>> ((nI p).toInt64 &&& 63))
  rw [b6_sshr p hp b (by omega), if_pos (by omega), Nat.add_zero] at h
  cases hb : b6 b p
  · rw [hb] at h; simp [h]
  · rw [hb] at h; simp [h]
theorem ub_all : ∀ b p, p < 60 → ubit b p = bitB b p := fun b p hp => (ubit_b (by omega)).trans (bitB_b (by omega)).symm
theorem b6_mask : ∀ n, n < 61 → ∀ i, i < 64 → b6 (((1 : Int64) <<< ((nI n).toInt64 &&& 63)) - 1) i = decide (i < n) := by decide +kernel
theorem b6_one : ∀ n, n < 64 → ∀ i, i < 64 → b6 ((1 : Int64) <<< ((nI n).toInt64 &&& 63)) i = decide (i = n) := by decide +kernel
theorem b6_zero {x : Int64} : x = 0 ↔ ∀ i, i < 64 → b6 x i = false := ⟨fun h i _ => by rw [h, b6_0], fun h => b6_ext (fun i hi => by rw [h i hi, b6_0])⟩
/-- outside the folio's parcels: the class's test and the reference's -/
theorem mask_out (P : Int64) (n : Nat) (hn : n < 61) : P &&& ((((1 : Int64) <<< ((nI n).toInt64 &&& 63)) - 1) ^^^ -1) = 0 ↔ P >>> ((nI n).toInt64 &&& 63) = 0 := by
  rw [b6_zero, b6_zero]
  constructor
  · intro h i hi
    rw [b6_sshr n (by omega) P hi]
    have h2 : ∀ j, n ≤ j → j < 64 → b6 P j = false := fun j hj hj2 => by
      have := h j hj2
      rw [b6_and, b6_xor, b6_mask n hn j hj2, b6_m1 j hj2] at this
      simpa [Nat.not_lt.mpr hj] using this
    split
    · exact h2 _ (by omega) (by omega)
    · exact h2 63 (by omega) (by omega)
  · intro h i hi
    rw [b6_and, b6_xor, b6_mask n hn i hi, b6_m1 i hi]
    by_cases hin : i < n
    · simp [hin]
    · have := h (i - n) (by omega)
      rw [b6_sshr n (by omega) P (by omega), if_pos (by omega), show n + (i - n) = i by omega] at this
      simp [this]
theorem out_bits (P : Int64) (n : Nat) (hn : n < 61) (h : P >>> ((nI n).toInt64 &&& 63) = 0) : ∀ i, n ≤ i → i < 64 → b6 P i = false := by
  intro i h1 h2
  have := b6_zero.mp h (i - n) (by omega)
  rw [b6_sshr n (by omega) P (by omega), if_pos (by omega), show n + (i - n) = i by omega] at this
  exact this
