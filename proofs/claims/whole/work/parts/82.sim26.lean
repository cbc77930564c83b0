/-! ===== split, hand: what the reference refuses ===== -/
def owB (o : Int32) (by' : Bool) : Bool := !by' || (!(decide (o < 1)) && !(decide (1000 < o)))
theorem s_parting {X : Cx} {w0 : Wd} {m : Nat} (hS : Sh w0 m) (r : Rs) (hI : RI r) (n : Nat) (s : Int64) (o : Int32) (by' : Bool) (h1 : 1 ≤ n) (h2 : n ≤ nE r) : CM X w0 m bX11_parting mX11_parting [vI (nI n), vJ s, vI o, vI (bI by')] r (pI fun v r1 => v = dvF r n s (owB o by') by' ∧ Pe r r1) := by
  have hc := hI.1
  have hE := hI.2.2.2.1
  have hN := hc.2.1.2
  have hnc : (nI n).toNatClampNeg = n := nI_clamp (by omega)
  have hv : vp_in (nI n) 301 := inN (by omega) (by omega)
  have hIn := hE n h1 h2
  refine pX11_parting X w0 m hS _ _ s o _ r ((s_isEntry hS r _).I ?_)
  rintro v r1 ⟨rfl, rfl⟩
  rw [ent_nI hc h1 h2, hnc]
  refine ⟨fun _ => ⟨hv, fun q => ⟨by simp [dvF, q], Pe.rf _⟩, fun q2 => ⟨fun q => ?_, fun q => ⟨by simp [dvF, q], Pe.rf _⟩⟩⟩, fun q => absurd q (by decide)⟩
  have main : owB o by' = true → iX11_parting_52 X w0 m (fun v r2 => v = dvF r1 n s (owB o by') by' ∧ Pe r1 r2) (nI n) s (bI by') (rI r1 3 n) r1 := by
    intro ho
    refine rX11_parting_52 X w0 m hS _ _ _ _ _ r1 ?_
    rw [lg_lt]
    refine ⟨fun hs => ⟨by simp [dvF, q, q2, ho, hs], Pe.rf _⟩, fun hs => (s_sumBelow hS r1 hc hE n h1 h2).J ?_⟩
    rintro v r2 ⟨rfl, rfl⟩
    have hP : Pe r1 (setL r1 n) := Pe.sL n
    have hI2 := RI_mv hP hI
    rw [lg_le]
    refine ⟨fun hs2 => (s_livesNow hS _ hI2.1 hI2.2.2.2.1 n h1 (by rw [hP.nn.2.1]; exact h2)).I ?_, fun hs2 => ⟨by simp [dvF, q, q2, ho, hs2], hP⟩⟩
    rintro v r3 ⟨rfl, rfl⟩
    have hP3 : Pe r1 (uS (uS (setL r1 n) 45 (sS (setL r1 n) 39)) 46 (sS (setL r1 n) 39)) := pe_now hP _ _
    rw [hP.liv, hP.1 39 rfl]
    rw [hP.1 39 rfl] at hP3
    have hwv : vp_in (nI (whR r1 n)) 301 := inN (by have := hIn.2.1.2.1; omega) (by omega)
    have hwc : (nI (whR r1 n)).toNatClampNeg = whR r1 n := nI_clamp (by have := hIn.2.1.2.1; omega)
    have fin : livB r1 (sS r1 39) (sS r1 39) n = true → ¬ (by' = true ∧ (rI r1 3 n = 2 ∨ rI r1 3 n = 3) ∧ ¬ rI r1 19 (whR r1 n) = 0) → iX11_parting_115 X w0 m (fun v r2 => v = dvF r1 n s (owB o by') by' ∧ Pe r1 r2) (nI n) (uS (uS (setL r1 n) 45 (sS r1 39)) 46 (sS r1 39)) := by
      intro hl hpp
      refine rX11_parting_115 X w0 m hS _ _ _ ?_
      have h298 : nI 298 = 298 := by decide
      rw [hnc, hP3.2.2.1 9 rfl, hIn.1.2.2.2.1, nI_z (show fiR r1 n < 2 ^ 31 by
        by_cases z : fiR r1 n = 0
        · omega
        · have := (hIn.2.2.1.2.2 z).2.1; omega), hP3.1 30 rfl, hc.2.1.1, ← h298, nI_leI (by omega) (by omega)]
      refine ⟨hv, fun h5 => ⟨fun h6 => ⟨?_, hP3⟩, fun h6 => ⟨?_, hP3⟩⟩, fun h5 => ⟨?_, hP3⟩⟩
      · rw [dvF, if_neg q, if_neg q2, if_neg (by rw [ho]; decide), if_neg hs, if_neg (fun y => y hs2), if_neg (by rw [hl]; decide), if_neg hpp, if_neg (fun y => y h5), if_neg (fun y => y h6)]
      · rw [dvF, if_neg q, if_neg q2, if_neg (by rw [ho]; decide), if_neg hs, if_neg (fun y => y hs2), if_neg (by rw [hl]; decide), if_neg hpp, if_neg (fun y => y h5), if_pos h6]
      · rw [dvF, if_neg q, if_neg q2, if_neg (by rw [ho]; decide), if_neg hs, if_neg (fun y => y hs2), if_neg (by rw [hl]; decide), if_neg hpp, if_pos h5]
    rw [bI_n, bI_0, bI_0, hnc, hP3.2.2.1 5 rfl, hIn.1.2.1, hwc, hP3.2.2.1 19 rfl]
    have pap : livB r1 (sS r1 39) (sS r1 39) n = true → by' = true → (rI r1 3 n = 2 ∨ rI r1 3 n = 3) → vp_in (nI n) 301 ∧ vp_in (nI (whR r1 n)) 301 ∧ ((rI r1 19 (whR r1 n) = 0) → iX11_parting_115 X w0 m (fun v r2 => v = dvF r1 n s (owB o by') by' ∧ Pe r1 r2) (nI n) (uS (uS (setL r1 n) 45 (sS r1 39)) 46 (sS r1 39))) ∧ ((¬ rI r1 19 (whR r1 n) = 0) → (7 : Int32) = dvF r1 n s (owB o by') by' ∧ Pe r1 (uS (uS (setL r1 n) 45 (sS r1 39)) 46 (sS r1 39))) := by
      intro hl hb h23
      refine ⟨hv, hwv, fun z => fin hl (fun y => y.2.2 z), fun z => ⟨?_, hP3⟩⟩
      rw [dvF, if_neg q, if_neg q2, if_neg (by rw [ho]; decide), if_neg hs, if_neg (fun y => y hs2), if_neg (by rw [hl]; decide), if_pos ⟨hb, h23, z⟩]
    refine ⟨fun hl => ⟨fun hb => fin hl (fun z => by rw [hb] at z; exact absurd z.1 (by decide)), fun hb => ⟨fun g2 => pap hl (by simpa using hb) (Or.inl g2), fun g2 => ⟨fun g3 => fin hl (fun y => y.2.1.elim g2 g3), fun g3 => pap hl (by simpa using hb) (Or.inr g3)⟩⟩⟩, fun hl => ⟨?_, hP3⟩⟩
    rw [dvF, if_neg q, if_neg q2, if_neg (by rw [ho]; decide), if_neg hs, if_neg (fun y => y hs2), if_pos hl]
  rw [bI_0]
  refine ⟨fun hb => main (by simp [owB, hb]), fun hb => ?_⟩
  have hb1 : by' = true := by simpa using hb
  refine ⟨fun g => ⟨by simp [dvF, q, q2, owB, hb1, g], Pe.rf _⟩, fun g => ⟨fun g2 => ⟨by simp [dvF, q, q2, owB, hb1, g2], Pe.rf _⟩, fun g2 => main (by simp [owB, g, g2])⟩⟩
