/-! ===== split, hand: the reference's new state ===== -/
def ptR (r : Rs) (N n : Nat) (s : Int64) (ow : Int32) : Rs :=
  uI (mkR (mkR r N (nI (foR r n)) (rI r 3 n) (nI (whR r n)) (nI n) (rI r 7 n) s) (N + 1) (nI (foR r n)) (rI r 3 n) (nI (whR r n)) (nI n) ow (rJ r 8 n - s)) 9 n (nI N)
theorem mk_3 (r : Rs) (N : Nat) (fo ki wh pa ow : Int32) (sm : Int64) (i : Nat) : rI (mkR r N fo ki wh pa ow sm) 3 i = if i = N then ki else rI r 3 i := by
  show (if 3 = 3 ∧ i = N then ki else rI r 3 i) = _; simp
theorem mk_4 (r : Rs) (N : Nat) (fo ki wh pa ow : Int32) (sm : Int64) (i : Nat) : rI (mkR r N fo ki wh pa ow sm) 4 i = if i = N then fo else rI r 4 i := by
  show (if 4 = 4 ∧ i = N then fo else rI r 4 i) = _; simp
theorem s_part {X : Cx} {w0 : Wd} {m : Nat} (hS : Sh w0 m) (r : Rs) (hI : RI r) (n : Nat) (s : Int64) (ow : Int32) (h1 : 1 ≤ n) (h2 : n ≤ nE r) (hn : nE r ≤ 298) : CM X w0 m bX11_part mX11_part [vI (nI n), vJ s, vI ow] r (pI fun v r1 => v = nI (nE r + 1) ∧ r1 = uS (ptR r (nE r + 1) n s ow) 41 0) := by
  have hc := hI.1
  have hE := hI.2.2.2.1
  have hIn := hE n h1 h2
  have hnc : (nI n).toNatClampNeg = n := nI_clamp (by omega)
  have hv : vp_in (nI n) 301 := inN (by omega) (by omega)
  have hw0 : ¬ nI (whR r n) = 0 := nI_ne0 hIn.2.1.1 (by have := hIn.2.1.2.1; omega)
  refine pX11_part X w0 m hS _ _ s ow r ?_
  rw [hnc, hIn.1.1, hIn.1.2.1]
  refine ⟨hv, hv, hv, hv, hv, (s_make hS r (nE r) hc.2.1.1 (by omega) _ _ _ _ _ _).I ?_⟩
  rintro v r2 ⟨rfl, rfl⟩
  rw [if_neg hw0, mk_3, mk_4, if_neg (show ¬ n = nE r + 1 by omega), if_neg (show ¬ n = nE r + 1 by omega), hIn.1.1]
  refine ⟨hv, hv, (s_make hS _ (nE r + 1) rfl (by omega) _ _ _ _ _ _).I ?_⟩
  rintro v r3 ⟨rfl, rfl⟩
  rw [if_neg hw0]
  refine ⟨hv, ?_⟩
  rintro r4 rfl r5 rfl
  exact ⟨nI_pred _, rfl⟩
theorem s_splitRef {X : Cx} {w0 : Wd} {m : Nat} (hS : Sh w0 m) (r : Rs) (hI : RI r) (n : Nat) (s : Int64) (h1 : 1 ≤ n) (h2 : n ≤ nE r) : CM X w0 m bX11_split mX11_split [vI (nI n), vJ s] r (pI fun u r1 => (dvF r n s true false ≠ 0 → u = -1 ∧ Pe (uS r 41 (dvF r n s true false)) r1) ∧ (dvF r n s true false = 0 → u = nI (nE r + 1) ∧ ∃ r2, Pe r r2 ∧ r1 = uS (ptR r2 (nE r + 1) n s (rI r 7 n)) 41 0)) := by
  have hc := hI.1
  have hN := hc.2.1.2
  have hnc : (nI n).toNatClampNeg = n := nI_clamp (by omega)
  have hv : vp_in (nI n) 301 := inN (by omega) (by omega)
  refine pX11_split X w0 m hS _ _ s r ?_
  have hp := s_parting (X := X) hS r hI n s 1 false h1 h2
  refine CM.I (A := fun v r1 => v = dvF r n s (owB 1 false) false ∧ Pe r r1) hp ?_
  rintro v r1 ⟨rfl, hP⟩
  have e : owB 1 false = true := rfl
  rw [e, hnc]
  have hpos : dvF r n s true false ≠ 0 → ¬ dvF r n s true false ≤ 0 := by
    unfold dvF
    repeat (split; · (intro _; decide))
    intro z; exact absurd rfl z
  have hlast : dvF r n s true false = 0 → nE r ≤ 298 := by
    intro z
    apply Classical.byContradiction
    intro y
    revert z
    unfold dvF
    repeat (split; · (intro z; exact absurd z (by decide)))
    first
      | (intro z; exact absurd z (by decide))
      | (rename_i q; exact absurd y q)
  refine ⟨fun hle => ⟨hv, ?_⟩, fun hle => (cm_ref hS hP _).I ?_⟩
  · have hz : dvF r n s true false = 0 := Classical.byContradiction fun z => hpos z hle
    have hI1 := RI_mv hP hI
    refine (s_part hS r1 hI1 n s _ h1 (by rw [hP.nn.2.1]; exact h2) (by rw [hP.nn.2.1]; exact hlast hz)).I ?_
    rintro u r2 ⟨rfl, rfl⟩
    rw [hP.nn.2.1, hP.2.2.1 7 rfl]
    exact ⟨fun z => absurd hz z, fun _ => ⟨rfl, r1, hP, rfl⟩⟩
  · rintro u r2 ⟨rfl, hq⟩
    exact ⟨fun _ => ⟨rfl, hq⟩, fun z => absurd (by rw [z]; decide) hle⟩
