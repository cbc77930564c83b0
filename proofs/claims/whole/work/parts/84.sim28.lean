/-! ===== hand: the reference; scratch rows and the new state ===== -/
theorem s_handRef {X : Cx} {w0 : Wd} {m : Nat} (hS : Sh w0 m) (r : Rs) (hI : RI r) (n : Nat) (s : Int64) (o : Int32) (h1 : 1 ≤ n) (h2 : n ≤ nE r) : CM X w0 m bX11_hand mX11_hand [vI (nI n), vJ s, vI o] r (pI fun u r1 => (dvF r n s (owB o true) true ≠ 0 → u = -1 ∧ Pe (uS r 41 (dvF r n s (owB o true) true)) r1) ∧ (dvF r n s (owB o true) true = 0 → u = nI (nE r + 1 + 1) ∧ ∃ r2, Pe r r2 ∧ r1 = uS (ptR r2 (nE r + 1) n (rJ r 8 n - s) o) 41 0)) := by
  have hc := hI.1
  have hN := hc.2.1.2
  have hnc : (nI n).toNatClampNeg = n := nI_clamp (by omega)
  have hv : vp_in (nI n) 301 := inN (by omega) (by omega)
  refine pX11_hand X w0 m hS _ _ s o r ?_
  have hp := s_parting (X := X) hS r hI n s o true h1 h2
  refine CM.I (A := fun v r1 => v = dvF r n s (owB o true) true ∧ Pe r r1) hp ?_
  rintro v r1 ⟨rfl, hP⟩
  rw [hnc]
  have hpos : dvF r n s (owB o true) true ≠ 0 → ¬ dvF r n s (owB o true) true ≤ 0 := by
    unfold dvF
    repeat (split; · (intro _; decide))
    intro z; exact absurd rfl z
  have hlast : dvF r n s (owB o true) true = 0 → nE r ≤ 298 := by
    intro z
    apply Classical.byContradiction
    intro y
    revert z
    unfold dvF
    repeat (split; · (intro z; exact absurd z (by decide)))
    first
      | (intro z; exact absurd z (by decide))
      | (rename_i q; exact absurd y q)
  refine ⟨fun hle => ⟨hv, ?_⟩, fun hle => (cm_ref hS hP _).I ?_⟩
  · have hz : dvF r n s (owB o true) true = 0 := Classical.byContradiction fun z => hpos z hle
    have hI1 := RI_mv hP hI
    refine (s_part hS r1 hI1 n _ _ h1 (by rw [hP.nn.2.1]; exact h2) (by rw [hP.nn.2.1]; exact hlast hz)).I ?_
    rintro u r2 ⟨rfl, rfl⟩
    rw [hP.nn.2.1, hP.2.2.2 8 rfl]
    exact ⟨fun z => absurd hz z, fun _ => ⟨nI_1 _, r1, hP, rfl⟩⟩
  · rintro u r2 ⟨rfl, hq⟩
    exact ⟨fun _ => ⟨rfl, hq⟩, fun z => absurd (by rw [z]; decide) hle⟩
theorem pe_clr {r r' : Rs} (h : Pe r r') (e i : Nat) : Pe (clr r e i) (clr r' e i) := by
  refine ⟨h.1, h.2.1, fun k hk => ?_, h.2.2.2⟩
  funext j
  show (if k = 29 ∧ 60 * e ≤ j ∧ j < 60 * e + i then (-1 : Int32) else rI r' k j) = (if k = 29 ∧ 60 * e ≤ j ∧ j < 60 * e + i then -1 else rI r k j)
  rw [h.2.2.1 k hk]
theorem pe_mk {r r' : Rs} (h : Pe r r') (N : Nat) (fo ki wh pa ow : Int32) (sm : Int64) : Pe (mkR r N fo ki wh pa ow sm) (mkR r' N fo ki wh pa ow sm) :=
  pe_clr (pe_cI (pe_cI (pe_cI (pe_cI (pe_cJ (pe_cI (pe_cI (pe_cI (pe_cI (pe_cI (pe_cS h 30 _) 3 N _) 4 N _) 5 N _) 6 N _) 7 N _) 8 N _) 9 N _) 16 N _) 23 N _) 27 N _) N 60
theorem pe_pt {r r' : Rs} (h : Pe r r') (N n : Nat) (s : Int64) (ow : Int32) : Pe (ptR r N n s ow) (ptR r' N n s ow) := by
  unfold ptR
  rw [h.fo, h.wh, h.2.2.1 3 rfl, h.2.2.1 7 rfl, h.2.2.2 8 rfl]
  exact pe_cI (pe_mk (pe_mk h _ _ _ _ _ _ _) _ _ _ _ _ _ _) 9 n _
