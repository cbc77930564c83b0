/-! ===== the class's reads over the tree ===== -/
section C1
variable {X : Cx}
theorem K_nz {w : Wd} (hz : wK w 0 = 0) {a c : Nat} (h : wK w a = c + 1) : a ≠ 0 := fun q => by subst q; omega
theorem c_isReleased (w : Wd) (x : Nat) (r : Rs) (hz : wK w 0 = 0) (hc : RIc r) (hf : RIf r) (hE : RIE r) (hC : CE w x r) (mo p : Nat) (hm : wK w mo = 5) (hp : p < 60) : ∀ e, 1 ≤ e → e ≤ nE r → Ct X bX2_isReleased mX2_isReleased [vR (eA w x e), vI (nI p), vR mo] w (qI fun v w' => v = bI (offB r (wI w 4 0 mo) (wI w 4 1 mo) p e) ∧ w' = w) := by
  have hp0 : ¬ nI p < 0 := nI_pos (by omega)
  have hpc : (nI p).toNatClampNeg = p := nI_clamp (by omega)
  have key : ∀ e, e ≤ nE r → jX2_isReleased_2 X (fun v w' => v = bI (offB r (wI w 4 0 mo) (wI w 4 1 mo) p e) ∧ w' = w) (nI p) mo (if e = 0 then 0 else eA w x e) w := by
    intro e
    induction e using Nat.strongRecOn with
    | ind e ih =>
      intro h2
      refine tX2_isReleased_2 X _ _ _ _ w ⟨fun h => ?_, fun h => ?_⟩
      · by_cases he : e = 0
        · subst he; rw [offB, dif_neg (fun h => h.1 rfl)]; exact ⟨rfl, rfl⟩
        · rw [if_neg he] at h; exact absurd h (K_nz hz (hC e (by omega) h2).1.1)
      · have he : e ≠ 0 := fun q => h (by rw [if_pos q])
        rw [if_neg he]
        have hI := hE e (by omega) h2
        have hCe := hC e (by omega) h2
        have hnx := ih (paR r e) hI.2.2.1.1 (Nat.le_trans (Nat.le_of_lt hI.2.2.1.1) h2)
        have off0 : rI r 29 (60 * e + p) = -1 → offB r (wI w 4 0 mo) (wI w 4 1 mo) p e = offB r (wI w 4 0 mo) (wI w 4 1 mo) p (paR r e) := fun hk => by
          rw [offB, dif_pos ⟨he, hI.2.2.1.1⟩, hk]
          simp [cntB]
        rw [hCe.1.2.2.2]
        refine ⟨hCe.1.1, fun h3 => ?_, fun h3 => ⟨fun h4 => absurd h4 hp0, fun _ => ?_⟩⟩
        · rcases hCe.2.2 with h4 | h4
          · rw [off0 (h4.2 p hp)]; exact hnx
          · exact absurd h3 h4.1
        · rcases hCe.2.2 with h4 | ⟨-, h5, h6, h7⟩
          · exact absurd h4.1 h3
          · have hsz := (hf (foR r e) hI.2.2.2.1.1).2.2
            have hle : (Int32.ofNat (wL w (wR w 2 6 (eA w x e))) ≤ nI p) ↔ ix r 0 (foR r e) ≤ p := by
              rw [h6]; exact nI_leI (by omega) (by omega)
            refine ⟨h5, fun h8 => ?_, fun h8 => ⟨?_, ?_⟩⟩
            · rw [hle] at h8
              rw [off0 ((h7 p hp).2 (by omega))]
              exact hnx
            · rw [hle] at h8
              rw [h6]
              exact inN (by omega) (by omega)
            · rw [hle] at h8
              have hac := (h7 p hp).1 (by omega)
              rw [hpc]
              have hk1 : xR w (wR w 2 6 (eA w x e)) p = 0 ∨ wK w (xR w (wR w 2 6 (eA w x e)) p) = 1 := by
                by_cases hk : rI r 29 (60 * e + p) = -1
                · exact Or.inl (hac.1 hk)
                · exact Or.inr (hac.2 hk).1
              refine (c_happened w _ mo hk1 hm).I ?_
              rintro v w1 ⟨rfl, rfl⟩
              have hB := hac.B (mo := mo) (fun hk => K_nz hz (hac.2 hk).1)
              refine ⟨fun h9 => ⟨hCe.1.1, ?_⟩, fun h9 => ?_⟩
              · rw [bI_0, hB] at h9
                rw [offB, dif_pos ⟨he, hI.2.2.1.1⟩, if_neg (by rw [h9]; decide), hCe.1.2.2.2]
                exact hnx
              · rw [bI_n, hB] at h9
                rw [offB, dif_pos ⟨he, hI.2.2.1.1⟩, if_pos h9]
                exact ⟨rfl, rfl⟩
  intro e h1 h2
  have h := key e h2
  rw [if_neg (by omega)] at h
  exact oX2_isReleased X _ _ _ _ w h
theorem Lk_cons {nx : Nat → Nat} {a b : Nat} {t : List Nat} (h : Lk nx a (b :: t)) : a = b ∧ b ≠ 0 ∧ Lk nx (nx b) t := h
/-- a leaf of the chain lies there -/
theorem c_liesLoop (w : Wd) (x : Nat) (r : Rs) (hz : wK w 0 = 0) (hc : RIc r) (hf : RIf r) (hE : RIE r) (hC : CE w x r) (mo p e : Nat) (hm : wK w mo = 5) (hp : p < 60) (h1 : 1 ≤ e) (h2 : e ≤ nE r) : ∀ (l : List Nat) (a : Nat), (∀ y ∈ l, 1 ≤ y ∧ y ≤ nE r) → Lk (wR w 2 8) a (l.map (eA w x)) → jX2_liesOn_62 X (fun v w' => v = bI ((l.filter (fun y => blw (paR r) y e)).any (fun y => !(offB r (wI w 4 0 mo) (wI w 4 1 mo) p y))) ∧ w' = w) (eA w x e) (nI p) mo a w := by
  intro l
  induction l with
  | nil =>
    intro a _ hk
    refine tX2_liesOn_62 X _ _ _ _ _ w ⟨fun _ => ⟨rfl, rfl⟩, fun h => absurd hk h⟩
  | cons y t ih =>
    intro a hl hk
    obtain ⟨rfl, hn, hk⟩ := Lk_cons hk
    have hy := hl y List.mem_cons_self
    have hCy := hC y hy.1 hy.2
    have hnx := ih _ (fun z hz => hl z (List.mem_cons_of_mem _ hz)) hk
    refine tX2_liesOn_62 X _ _ _ _ _ w ⟨fun h => absurd h hn, fun _ => ⟨hCy.1.1, (c_isBelow w x r hc hE hC (fun e a b => K_nz hz (hC e a b).1.1) e h1 h2 y hy.1 hy.2).I ?_⟩⟩
    rintro v w1 ⟨rfl, rfl⟩
    refine ⟨fun h => ⟨hCy.1.1, ?_⟩, fun h => ⟨hCy.1.1, (c_isReleased w1 x r hz hc hf hE hC mo p hm hp y hy.1 hy.2).I ?_⟩⟩
    · rw [bI_0] at h
      rw [List.filter_cons_of_neg (by simp [h])]
      exact hnx
    · rw [bI_n] at h
      rintro v w2 ⟨rfl, rfl⟩
      rw [List.filter_cons_of_pos (p := fun y => blw (paR r) y e) h]
      refine ⟨fun h3 => ⟨hCy.1.1, ?_⟩, fun h3 => ?_⟩
      · rw [bI_n] at h3
        rw [List.any_cons, h3]
        exact hnx
      · rw [bI_0] at h3
        rw [List.any_cons, h3]
        exact ⟨rfl, rfl⟩
theorem blw_root {r : Rs} (hE : RIE r) : ∀ e, 1 ≤ e → e ≤ nE r → blw (paR r) e (whR r e) = true := by
  intro e
  induction e using Nat.strongRecOn with
  | ind e ih =>
    intro h1 h2
    have hI := hE e h1 h2
    rw [blw_eq (by omega) hI.2.2.1.1]
    split
    · rfl
    · rename_i hne
      have hp : paR r e ≠ 0 := fun q => hne ((hI.2.1.2.2.2.1.mp q).symm)
      have := ih (paR r e) hI.2.2.1.1 (by omega) (by have := hI.2.2.1.1; omega)
      rw [hI.2.1.2.2.2.2 hp] at this
      exact this
/-- the class's liesOn is the reference's lies -/
theorem c_liesOn (w : Wd) (x : Nat) (r : Rs) (hz : wK w 0 = 0) (hI : RI r) (hC : CR w x r) (hub : ∀ b p, p < 60 → ubit b p = bitB b p) (mo p e : Nat) (hm : wK w mo = 5) (hp : p < 60) (h1 : 1 ≤ e) (h2 : e ≤ nE r) : Ct X bX2_liesOn mX2_liesOn [vR (eA w x e), vI (nI p), vR mo] w (qI fun v w' => v = bI (decide (p < ix r 0 (foR r e)) && liesB r (wI w 4 0 mo) (wI w 4 1 mo) e p) ∧ w' = w) := by
  obtain ⟨hc, hf, hb, hE, hP, hd⟩ := hI
  obtain ⟨C1, C2, C3, C4, C5⟩ := hC
  have hIe := hE e h1 h2
  have hk1 : 1 ≤ whR r e := hIe.2.1.1
  have hk2 : whR r e ≤ nE r := Nat.le_trans hIe.2.1.2.1 h2
  have hkw := hE _ hk1 hk2
  have hkp : paR r (whR r e) = 0 := hkw.2.1.2.2.2.1.mpr hIe.2.1.2.2.1
  have hCe := C3 e h1 h2
  have hW := C4 _ hk1 hk2 hkp
  have hfo : foR r e = foR r (whR r e) := hIe.2.2.2.1.2.1
  have hF := C2 _ hIe.2.2.2.1.1
  have hsz := hf _ hIe.2.2.2.1.1
  have hfa : wR w 9 0 (wA w x (whR r e)) = fA w x (foR r e) := by rw [hW.1.2.1, ← hfo]
  have hp0 : ¬ nI p < 0 := nI_pos (by omega)
  refine oX2_liesOn X _ _ _ _ w ?_
  rw [hCe.1.2.2.1, hfa]
  refine ⟨hCe.1.1, hW.1.1, hF.1, (c_hasParcel w _ _ hF.1).I ?_⟩
  rintro v w1 ⟨rfl, rfl⟩
  rw [hF.2.2.1, hsz.1]
  have hle : (nI (ix r 0 (foR r e)) ≤ nI p) ↔ ix r 0 (foR r e) ≤ p := nI_leI (by omega) (by omega)
  refine ⟨fun h => ?_, fun h => ⟨hF.1, (c_isTorn w1 _ p hF.1).I ?_⟩⟩
  · rw [bI_0] at h
    have : ¬ p < ix r 0 (foR r e) := by
      simp [hp0] at h
      rw [hle] at h
      omega
    simp [this, bI]
  · rw [bI_n] at h
    have hps : p < ix r 0 (foR r e) := by
      simp [hp0] at h
      exact (nI_ltI (by omega) (by omega)).mp h
    rintro v w2 ⟨rfl, rfl⟩
    rw [hF.2.2.2.1 p hp]
    refine ⟨fun h3 => ?_, fun h3 => ?_⟩
    · rw [bI_n] at h3
      simp [liesB, h3, bI]
    · rw [bI_0] at h3
      rw [hCe.1.2.2.1]
      simp only [lg_eq]
      have hbit := hub (rJ r 10 (whR r e)) p hp
      refine ⟨hCe.1.1, hW.1.1, fun h4 => ?_, fun h4 => ?_⟩
      · rw [hW.1.2.2.1] at h4
        have : bitB (rJ r 10 (whR r e)) p = false := by rw [← hbit]; simp [ubit, h4]
        simp [liesB, this, bI]
      · rw [hW.1.2.2.1] at h4
        have hbt : bitB (rJ r 10 (whR r e)) p = true := by rw [← hbit]; simp [ubit, h4]
        have ha2 := hW.2.1.2.1
        have ha4 := hW.2.1.2.2
        refine (c_livesAt w2 _ mo hW.1.1 ?_ ?_ hm).I ?_
        · exact Or.inr (ha2.2 hW.2.1.1).1
        · by_cases hk : rI r 16 (whR r e) = -1
          · exact Or.inl (ha4.1 hk)
          · exact Or.inr (ha4.2 hk).1
        · rintro v w3 ⟨rfl, rfl⟩
          rw [ha2.B (fun hk => K_nz hz (ha2.2 hk).1), ha4.B (fun hk => K_nz hz (ha4.2 hk).1)]
          have hlv : (cntB (wI w3 4 0 mo) (wI w3 4 1 mo) (rI r 13 (whR r e)) (rI r 14 (whR r e)) && !(cntB (wI w3 4 0 mo) (wI w3 4 1 mo) (rI r 15 (whR r e)) (rI r 16 (whR r e)))) = livB r (wI w3 4 0 mo) (wI w3 4 1 mo) e := rfl
          rw [hlv]
          refine ⟨fun h5 => ⟨hCe.1.1, ?_⟩, fun h5 => ?_⟩
          · rw [bI_n] at h5
            rw [hCe.1.2.2.1]
            refine ⟨hW.1.1, ?_⟩
            have H := HT_of hc hE
            have hlp := c_liesLoop w3 x r hz hc hf hE C3 mo p e hm hp h1 h2 (lvs (fiR r) (whR r e)) _ (fun y hy => by have := lvs_mem H _ hk1 hk2 y hy; omega) hW.2.2.2.2.1 (X := X)
            rw [lvs_filter H h1 h2 _ hk1 hk2 (blw_root hE e h1 h2)] at hlp
            have hfin : (decide (p < ix r 0 (foR r e)) && liesB r (wI w3 4 0 mo) (wI w3 4 1 mo) e p) = (lvs (fiR r) e).any (fun y => !(offB r (wI w3 4 0 mo) (wI w3 4 1 mo) p y)) := by
              simp only [liesB, hbt, h5, hloB, hps]
              simp [h3]
            rw [hfin]
            exact hlp
          · rw [bI_0] at h5
            simp [liesB, h5, bI]
end C1
