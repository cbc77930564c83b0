/-! ===== split, hand: the rows of the reference's new state ===== -/
section C30
variable (r : Rs) (N n : Nat) (s : Int64) (ow : Int32)
theorem pt_3 (i : Nat) : rI (ptR r N n s ow) 3 i = if i = N + 1 then rI r 3 n else if i = N then rI r 3 n else rI r 3 i := by
  show (if 3 = 3 ∧ i = N + 1 then rI r 3 n else if 3 = 3 ∧ i = N then rI r 3 n else rI r 3 i) = _; simp
theorem pt_4 (i : Nat) : rI (ptR r N n s ow) 4 i = if i = N + 1 then nI (foR r n) else if i = N then nI (foR r n) else rI r 4 i := by
  show (if 4 = 4 ∧ i = N + 1 then nI (foR r n) else if 4 = 4 ∧ i = N then nI (foR r n) else rI r 4 i) = _; simp
theorem pt_5 (i : Nat) : rI (ptR r N n s ow) 5 i = if i = N + 1 then nI (whR r n) else if i = N then nI (whR r n) else rI r 5 i := by
  show (if 5 = 5 ∧ i = N + 1 then nI (whR r n) else if 5 = 5 ∧ i = N then nI (whR r n) else rI r 5 i) = _; simp
theorem pt_6 (i : Nat) : rI (ptR r N n s ow) 6 i = if i = N + 1 then nI n else if i = N then nI n else rI r 6 i := by
  show (if 6 = 6 ∧ i = N + 1 then nI n else if 6 = 6 ∧ i = N then nI n else rI r 6 i) = _; simp
theorem pt_7 (i : Nat) : rI (ptR r N n s ow) 7 i = if i = N + 1 then ow else if i = N then rI r 7 n else rI r 7 i := by
  show (if 7 = 7 ∧ i = N + 1 then ow else if 7 = 7 ∧ i = N then rI r 7 n else rI r 7 i) = _; simp
theorem pt_16 (i : Nat) : rI (ptR r N n s ow) 16 i = if i = N + 1 then -1 else if i = N then -1 else rI r 16 i := by
  show (if 16 = 16 ∧ i = N + 1 then -1 else if 16 = 16 ∧ i = N then -1 else rI r 16 i) = _; simp
theorem pt_23 (i : Nat) : rI (ptR r N n s ow) 23 i = if i = N + 1 then -1 else if i = N then -1 else rI r 23 i := by
  show (if 23 = 23 ∧ i = N + 1 then -1 else if 23 = 23 ∧ i = N then -1 else rI r 23 i) = _; simp
theorem pt_27 (i : Nat) : rI (ptR r N n s ow) 27 i = if i = N + 1 then -1 else if i = N then -1 else rI r 27 i := by
  show (if 27 = 27 ∧ i = N + 1 then -1 else if 27 = 27 ∧ i = N then -1 else rI r 27 i) = _; simp
theorem pt_9 (i : Nat) : rI (ptR r N n s ow) 9 i = if i = n then nI N else if i = N + 1 then 0 else if i = N then 0 else rI r 9 i := by
  show (if 9 = 9 ∧ i = n then nI N else if 9 = 9 ∧ i = N + 1 then 0 else if 9 = 9 ∧ i = N then 0 else rI r 9 i) = _; simp
theorem pt_29 (i : Nat) : rI (ptR r N n s ow) 29 i = if 60 * (N + 1) ≤ i ∧ i < 60 * (N + 1) + 60 then -1 else if 60 * N ≤ i ∧ i < 60 * N + 60 then -1 else rI r 29 i := by
  show (if 29 = 29 ∧ 60 * (N + 1) ≤ i ∧ i < 60 * (N + 1) + 60 then -1 else if 29 = 29 ∧ 60 * N ≤ i ∧ i < 60 * N + 60 then -1 else rI r 29 i) = _; simp
theorem pt_8 (i : Nat) : rJ (ptR r N n s ow) 8 i = if i = N + 1 then rJ r 8 n - s else if i = N then s else rJ r 8 i := by
  show (if 8 = 8 ∧ i = N + 1 then rJ r 8 n - s else if 8 = 8 ∧ i = N then s else rJ r 8 i) = _; simp
theorem pt_r0 : rI (ptR r N n s ow) 0 = rI r 0 := rfl
theorem pt_r1 : rI (ptR r N n s ow) 1 = rI r 1 := rfl
theorem pt_r11 : rI (ptR r N n s ow) 11 = rI r 11 := rfl
theorem pt_r13 : rI (ptR r N n s ow) 13 = rI r 13 := rfl
theorem pt_r14 : rI (ptR r N n s ow) 14 = rI r 14 := rfl
theorem pt_r15 : rI (ptR r N n s ow) 15 = rI r 15 := rfl
theorem pt_r17 : rI (ptR r N n s ow) 17 = rI r 17 := rfl
theorem pt_r18 : rI (ptR r N n s ow) 18 = rI r 18 := rfl
theorem pt_r19 : rI (ptR r N n s ow) 19 = rI r 19 := rfl
theorem pt_r20 : rI (ptR r N n s ow) 20 = rI r 20 := rfl
theorem pt_r21 : rI (ptR r N n s ow) 21 = rI r 21 := rfl
theorem pt_r22 : rI (ptR r N n s ow) 22 = rI r 22 := rfl
theorem pt_r24 : rI (ptR r N n s ow) 24 = rI r 24 := rfl
theorem pt_r25 : rI (ptR r N n s ow) 25 = rI r 25 := rfl
theorem pt_r26 : rI (ptR r N n s ow) 26 = rI r 26 := rfl
theorem pt_r28 : rI (ptR r N n s ow) 28 = rI r 28 := rfl
theorem pt_r31 : rI (ptR r N n s ow) 31 = rI r 31 := rfl
theorem pt_r32 : rI (ptR r N n s ow) 32 = rI r 32 := rfl
theorem pt_r34 : rI (ptR r N n s ow) 34 = rI r 34 := rfl
theorem pt_r35 : rI (ptR r N n s ow) 35 = rI r 35 := rfl
theorem pt_r36 : rI (ptR r N n s ow) 36 = rI r 36 := rfl
theorem pt_r37 : rI (ptR r N n s ow) 37 = rI r 37 := rfl
theorem pt_r51 : rI (ptR r N n s ow) 51 = rI r 51 := rfl
theorem pt_j10 : rJ (ptR r N n s ow) 10 = rJ r 10 := rfl
theorem pt_j12 : rJ (ptR r N n s ow) 12 = rJ r 12 := rfl
theorem pt_j33 : rJ (ptR r N n s ow) 33 = rJ r 33 := rfl
theorem pt_j62 : rJ (ptR r N n s ow) 62 = rJ r 62 := rfl
theorem pt_j63 : rJ (ptR r N n s ow) 63 = rJ r 63 := rfl
theorem pt_s2 : sS (ptR r N n s ow) 2 = sS r 2 := rfl
theorem pt_s38 : sS (ptR r N n s ow) 38 = sS r 38 := rfl
theorem pt_s39 : sS (ptR r N n s ow) 39 = sS r 39 := rfl
theorem pt_s40 : sS (ptR r N n s ow) 40 = sS r 40 := rfl
theorem pt_s41 : sS (ptR r N n s ow) 41 = sS r 41 := rfl
theorem pt_s42 : sS (ptR r N n s ow) 42 = sS r 42 := rfl
theorem pt_s43 : sS (ptR r N n s ow) 43 = sS r 43 := rfl
theorem pt_s44 : sS (ptR r N n s ow) 44 = sS r 44 := rfl
theorem pt_s52 : sS (ptR r N n s ow) 52 = sS r 52 := rfl
theorem pt_s30 : sS (ptR r N n s ow) 30 = nI (N + 1) := rfl
theorem pt_O : sO (ptR r N n s ow) = sO r := by unfold sO ptR mkR clr mk0 uI uJ uS; rfl
theorem pt_x0 (i : Nat) : ix (ptR r N n s ow) 0 i = ix r 0 i := rfl
theorem pt_x24 (i : Nat) : ix (ptR r N n s ow) 24 i = ix r 24 i := rfl
theorem pt_x25 (i : Nat) : ix (ptR r N n s ow) 25 i = ix r 25 i := rfl
theorem pt_x31 (i : Nat) : ix (ptR r N n s ow) 31 i = ix r 31 i := rfl
theorem pt_x32 (i : Nat) : ix (ptR r N n s ow) 32 i = ix r 32 i := rfl
theorem pt_nF : nF (ptR r N n s ow) = nF r := rfl
theorem pt_nP : nP (ptR r N n s ow) = nP r := rfl
theorem pt_pa (hn : n < 2 ^ 31) (i : Nat) : paR (ptR r N n s ow) i = if i = N + 1 then n else if i = N then n else paR r i := by
  unfold paR ix; rw [pt_6, if_clamp, if_clamp, nI_clamp hn]
theorem pt_fi (hN : N < 2 ^ 31) (i : Nat) : fiR (ptR r N n s ow) i = if i = n then N else if i = N + 1 then 0 else if i = N then 0 else fiR r i := by
  unfold fiR ix; rw [pt_9, if_clamp, if_clamp, if_clamp, nI_clamp hN]; rfl
theorem pt_wh (hw : whR r n < 2 ^ 31) (i : Nat) : whR (ptR r N n s ow) i = if i = N + 1 then whR r n else if i = N then whR r n else whR r i := by
  show (rI (ptR r N n s ow) 5 i).toNatClampNeg = _; rw [pt_5, if_clamp, if_clamp, nI_clamp hw]; rfl
theorem pt_fo (hw : foR r n < 2 ^ 31) (i : Nat) : foR (ptR r N n s ow) i = if i = N + 1 then foR r n else if i = N then foR r n else foR r i := by
  show (rI (ptR r N n s ow) 4 i).toNatClampNeg = _; rw [pt_4, if_clamp, if_clamp, nI_clamp hw]; rfl
theorem pt_nE (hN : N + 1 < 2 ^ 31) : nE (ptR r N n s ow) = N + 1 := nI_clamp hN
end C30
