/-! ===== kind, undo ===== -/
theorem wn_at {w : Wd} {x : Nat} {r : Rs} (hE : CE w x r) (hW : CW w x r) {k : Nat} (a : 1 ≤ k) (b : k ≤ nE r) (c : paR r k = 0) : wK w (wR w 9 8 (wA w x k)) = 3 ∧ wI w 2 0 (wR w 9 8 (wA w x k)) = nI k := by
  rw [(hW k a b c).1.2.2.2.1]
  exact ⟨(hE k a b).1.1, (hE k a b).1.2.1⟩
theorem sm_kind (e q : Int32) : SmI bX10_kind mX10_kind bX11_kind mX11_kind [vI e, vI q] := by
  intro X w x m r hA
  have hC := hA.2.2.1
  have hc := hA.2.2.2.2.1
  have h4 := hA.2.2.2.1
  have hS := hA.1.1
  have hz := hA.2.1.1
  refine oX10_kind X _ x e q w ⟨hC.1.1, (c_entryAt w x r e hC hc).R ?_⟩
  rintro a w1 ⟨rfl, rfl⟩
  cases he : entB r e
  · rw [if_neg (by decide)]
    refine ⟨fun z => absurd rfl z, fun _ => ⟨r, hA, pX11_kind X w1 m hS _ e q r ((s_isEntry hS r e).I ?_)⟩⟩
    rintro v r1 ⟨rfl, rfl⟩
    rw [he]
    exact ⟨fun z => absurd rfl z, fun _ => ⟨rfl, Pe.rf _⟩⟩
  · rw [if_pos rfl]
    obtain ⟨n, rfl, h1, h2⟩ := ent_of hc he
    have hN := hc.2.1.2
    have hnc : (nI n).toNatClampNeg = n := nI_clamp (by omega)
    have hvn : vp_in (nI n) 301 := inN (by omega) (by omega)
    rw [hnc]
    have hCe := h4.2.1 n h1 h2
    have h0 := K_nz hz hCe.1.1
    have hE := hA.2.2.2.2.2.2.2.1
    have hIn := hE n h1 h2
    obtain ⟨k1, k2, k3⟩ := whole_of_e hE h4.2.2.1 h1 h2
    have hk := h4.2.2.1 _ k1 k2 k3
    have hkd : rI r 3 (whR r n) = rI r 3 n := (hIn.2.2.2.1.2.2.1).symm
    have hwc : (nI (whR r n)).toNatClampNeg = whR r n := nI_clamp (by omega)
    have hvw : vp_in (nI (whR r n)) 301 := inN (by omega) (by omega)
    have rf : ∀ (v : Int32), (q = 0 → rI r 3 n = v) → (q = 1 → rI r 4 n = v) → (q = 2 → rI r 5 n = v) → (q = 3 → rI r 6 n = v) → (q = 4 → rI r 7 n = v) → (q = 5 → bI (livB r (sS r 39) (sS r 39) n) = v) → (q = 6 → rI r 13 (whR r n) = v) → (q = 7 → rI r 14 (whR r n) = v) → (q = 8 → (if rI r 9 n = 0 then 0 else 2) = v) → (q = 9 → rI r 24 n + rI r 25 n = v) → (¬ q = 0 → ¬ q = 1 → ¬ q = 2 → ¬ q = 3 → ¬ q = 4 → ¬ q = 5 → ¬ q = 6 → ¬ q = 7 → ¬ q = 8 → ¬ q = 9 → -1 = v) → ∃ r', AT w1 x m r r' ∧ CM X w1 m bX11_kind mX11_kind [vI (nI n), vI q] r (pI fun u r1 => u = v ∧ Pe r' r1) := by
      intro v g0 g1 g2 g3 g4 g5 g6 g7 g8 g9 gd
      refine ⟨r, hA, pX11_kind X w1 m hS _ _ q r ((s_isEntry hS r _).I ?_)⟩
      rintro v' r1 ⟨rfl, rfl⟩
      rw [he, hnc, hIn.1.2.1, hwc]
      refine ⟨fun _ => ⟨hvn, fun z => ⟨hvn, g0 z, Pe.rf _⟩, fun z => ⟨hvn, g1 z, Pe.rf _⟩, fun z => ⟨by rw [← hIn.1.2.1]; exact g2 z, Pe.rf _⟩, fun z => ⟨hvn, g3 z, Pe.rf _⟩, fun z => ⟨hvn, g4 z, Pe.rf _⟩, fun z => (s_livesNow hS r1 hc hE n h1 h2).I ?_, fun z => ⟨hvw, g6 z, Pe.rf _⟩, fun z => ⟨hvw, g7 z, Pe.rf _⟩, fun z => ⟨hvn, fun y => ⟨by rw [← g8 z, if_pos y], Pe.rf _⟩, fun y => ⟨by rw [← g8 z, if_neg y], Pe.rf _⟩⟩, fun z => ⟨hvn, hvn, g9 z, Pe.rf _⟩, fun z0 z1 z2 z3 z4 z5 z6 z7 z8 z9 => ⟨gd z0 z1 z2 z3 z4 z5 z6 z7 z8 z9, Pe.rf _⟩⟩, fun z => absurd z (by decide)⟩
      rintro u r2 ⟨rfl, rfl⟩
      have hP := pe_now (Pe.rf r1) (sS r1 39) (sS r1 39)
      have g := g5 z
      refine ⟨fun y => ⟨?_, hP⟩, fun y => ⟨?_, hP⟩⟩
      · rw [← g, y]
      · rw [bI_n] at y; rw [← g, y]; rfl
    have d0 : ∀ a b : Int32, a ≠ b → q = a → q ≠ b := fun a b h z => by rw [z]; exact h
    rw [hCe.1.2.2.1]
    refine ⟨fun _ => ⟨hCe.1.1, fun z => ⟨hk.1.1, hk.2.2.1.1, ?_⟩, fun z => ⟨hk.1.1, ?_⟩, fun z => ⟨hk.1.1, ?_⟩, fun z => ?_, fun z => ?_, fun z => ⟨hC.1.1, hk.1.1, (c_livesE w1 x r hz hC hE h4.2.2.1 n h1 h2).I ?_⟩, fun z => ⟨hk.1.1, (hk.2.1.2.1.2 hk.2.1.1).1, ?_⟩, fun z => ⟨hk.1.1, (hk.2.1.2.1.2 hk.2.1.1).1, ?_⟩, fun z => ?_, fun z => ?_, fun z0 z1 z2 z3 z4 z5 z6 z7 z8 z9 => ?_⟩, fun z => absurd z h0⟩
    · subst z; exact rf _ (fun _ => by rw [hk.2.2.1.2.1, hkd]) (fun h => absurd h (by decide)) (fun h => absurd h (by decide)) (fun h => absurd h (by decide)) (fun h => absurd h (by decide)) (fun h => absurd h (by decide)) (fun h => absurd h (by decide)) (fun h => absurd h (by decide)) (fun h => absurd h (by decide)) (fun h => absurd h (by decide)) (fun z => absurd rfl z)
    · have hfo := hIn.2.2.2.1
      rw [hk.1.2.1]
      refine ⟨(h4.1 _ (by rw [← hfo.2.1]; exact hfo.1)).1, ?_⟩
      subst z
      exact rf _ (fun h => absurd h (by decide)) (fun _ => by rw [(h4.1 _ (by rw [← hfo.2.1]; exact hfo.1)).2.1, hIn.1.1, hfo.2.1]) (fun h => absurd h (by decide)) (fun h => absurd h (by decide)) (fun h => absurd h (by decide)) (fun h => absurd h (by decide)) (fun h => absurd h (by decide)) (fun h => absurd h (by decide)) (fun h => absurd h (by decide)) (fun h => absurd h (by decide)) (fun _ z => absurd rfl z)
    · obtain ⟨n1, n2⟩ := wn_at h4.2.1 h4.2.2.1 k1 k2 k3
      refine (c_number w1 _ hk.1.1 n1 (K_nz hz n1)).I ?_
      rintro v w2 ⟨rfl, rfl⟩
      subst z
      exact rf _ (fun h => absurd h (by decide)) (fun h => absurd h (by decide)) (fun _ => by rw [n2, hIn.1.2.1]) (fun h => absurd h (by decide)) (fun h => absurd h (by decide)) (fun h => absurd h (by decide)) (fun h => absurd h (by decide)) (fun h => absurd h (by decide)) (fun h => absurd h (by decide)) (fun h => absurd h (by decide)) (fun _ _ z => absurd rfl z)
    · rw [hCe.1.2.2.2]
      subst z
      refine ⟨fun y => ?_, fun y => ?_⟩
      · have hp : paR r n ≠ 0 := fun e => y (by rw [if_pos e])
        rw [if_neg hp]
        have hpb := hIn.2.2.1.1
        have hcp := h4.2.1 (paR r n) (by omega) (by omega)
        exact ⟨hcp.1.1, rf _ (fun h => absurd h (by decide)) (fun h => absurd h (by decide)) (fun h => absurd h (by decide)) (fun _ => by rw [hcp.1.2.1, hIn.1.2.2.1]) (fun h => absurd h (by decide)) (fun h => absurd h (by decide)) (fun h => absurd h (by decide)) (fun h => absurd h (by decide)) (fun h => absurd h (by decide)) (fun h => absurd h (by decide)) (fun _ _ _ z => absurd rfl z)⟩
      · rw [par0 hz hE h4.2.1 h1 h2] at y
        exact rf _ (fun h => absurd h (by decide)) (fun h => absurd h (by decide)) (fun h => absurd h (by decide)) (fun _ => by rw [hIn.1.2.2.1, y]; rfl) (fun h => absurd h (by decide)) (fun h => absurd h (by decide)) (fun h => absurd h (by decide)) (fun h => absurd h (by decide)) (fun h => absurd h (by decide)) (fun h => absurd h (by decide)) (fun _ _ _ z => absurd rfl z)
    · subst z; exact rf _ (fun h => absurd h (by decide)) (fun h => absurd h (by decide)) (fun h => absurd h (by decide)) (fun h => absurd h (by decide)) (fun _ => by rw [hCe.2.1.1]) (fun h => absurd h (by decide)) (fun h => absurd h (by decide)) (fun h => absurd h (by decide)) (fun h => absurd h (by decide)) (fun h => absurd h (by decide)) (fun _ _ _ _ z => absurd rfl z)
    · rintro v w2 ⟨rfl, rfl⟩
      subst z
      refine ⟨fun y => ?_, fun y => ?_⟩
      · exact rf _ (fun h => absurd h (by decide)) (fun h => absurd h (by decide)) (fun h => absurd h (by decide)) (fun h => absurd h (by decide)) (fun h => absurd h (by decide)) (fun _ => y) (fun h => absurd h (by decide)) (fun h => absurd h (by decide)) (fun h => absurd h (by decide)) (fun h => absurd h (by decide)) (fun _ _ _ _ _ z => absurd rfl z)
      · exact rf _ (fun h => absurd h (by decide)) (fun h => absurd h (by decide)) (fun h => absurd h (by decide)) (fun h => absurd h (by decide)) (fun h => absurd h (by decide)) (fun _ => by rw [bI_n] at y; rw [y]; rfl) (fun h => absurd h (by decide)) (fun h => absurd h (by decide)) (fun h => absurd h (by decide)) (fun h => absurd h (by decide)) (fun _ _ _ _ _ z => absurd rfl z)
    · subst z; exact rf _ (fun h => absurd h (by decide)) (fun h => absurd h (by decide)) (fun h => absurd h (by decide)) (fun h => absurd h (by decide)) (fun h => absurd h (by decide)) (fun h => absurd h (by decide)) (fun _ => by rw [(hk.2.1.2.1.2 hk.2.1.1).2.1]) (fun h => absurd h (by decide)) (fun h => absurd h (by decide)) (fun h => absurd h (by decide)) (fun _ _ _ _ _ _ z => absurd rfl z)
    · subst z; exact rf _ (fun h => absurd h (by decide)) (fun h => absurd h (by decide)) (fun h => absurd h (by decide)) (fun h => absurd h (by decide)) (fun h => absurd h (by decide)) (fun h => absurd h (by decide)) (fun h => absurd h (by decide)) (fun _ => by rw [(hk.2.1.2.1.2 hk.2.1.1).2.2]) (fun h => absurd h (by decide)) (fun h => absurd h (by decide)) (fun _ _ _ _ _ _ _ z => absurd rfl z)
    · rw [hCe.2.1.2.2.1]
      subst z
      have hfb : fiR r n < 2 ^ 31 := by have := hIn.2.2.1.2.2; omega
      refine ⟨fun y => ?_, fun y => ?_⟩
      · rw [bI_0] at y
        have y : fiR r n = 0 := by simpa using y
        exact rf _ (fun h => absurd h (by decide)) (fun h => absurd h (by decide)) (fun h => absurd h (by decide)) (fun h => absurd h (by decide)) (fun h => absurd h (by decide)) (fun h => absurd h (by decide)) (fun h => absurd h (by decide)) (fun h => absurd h (by decide)) (fun _ => by rw [hIn.1.2.2.2.1, y]; rfl) (fun h => absurd h (by decide)) (fun _ _ _ _ _ _ _ _ z => absurd rfl z)
      · rw [bI_n] at y
        have y : fiR r n ≠ 0 := by simpa using y
        exact rf _ (fun h => absurd h (by decide)) (fun h => absurd h (by decide)) (fun h => absurd h (by decide)) (fun h => absurd h (by decide)) (fun h => absurd h (by decide)) (fun h => absurd h (by decide)) (fun h => absurd h (by decide)) (fun h => absurd h (by decide)) (fun _ => by rw [hIn.1.2.2.2.1, if_neg (by rw [nI_z hfb]; exact y)]) (fun h => absurd h (by decide)) (fun _ _ _ _ _ _ _ _ z => absurd rfl z)
    · rw [hCe.1.2.2.2]
      subst z
      have h9 := hIn.2.2.2.2
      have hsum : rI r 24 n + rI r 25 n = nI (ix r 24 n + ix r 25 n) := by
        rw [hIn.1.2.2.2.2.1, hIn.1.2.2.2.2.2, nI_add]
      refine ⟨fun y => ?_, fun y => ⟨hk.1.1, ?_⟩⟩
      · have hp : paR r n ≠ 0 := fun e => y (by rw [if_pos e])
        have z1 : ix r 24 n = 0 := Classical.byContradiction fun z => hp (h9.2.2.2.1 z).2.1
        have z2 : ix r 25 n = 0 := Classical.byContradiction fun z => hp (h9.2.2.2.2 z).2.1
        exact rf _ (fun h => absurd h (by decide)) (fun h => absurd h (by decide)) (fun h => absurd h (by decide)) (fun h => absurd h (by decide)) (fun h => absurd h (by decide)) (fun h => absurd h (by decide)) (fun h => absurd h (by decide)) (fun h => absurd h (by decide)) (fun h => absurd h (by decide)) (fun _ => by rw [hsum, z1, z2]; rfl) (fun _ _ _ _ _ _ _ _ _ z => absurd rfl z)
      · rw [par0 hz hE h4.2.1 h1 h2] at y
        have hwn : whR r n = n := hIn.2.1.2.2.2.1.mp y
        rw [hwn] at hk ⊢
        rw [hk.2.2.2.1.1]
        refine ⟨fun z => ?_, fun z => ?_⟩
        · have hs0 : ¬ ix r 24 n + ix r 25 n = 0 := fun e => z (by rw [if_pos e])
          rw [if_neg hs0]
          have hpw : paR r (ix r 24 n + ix r 25 n) = 0 := by
            rcases h9.2.2.1 with z1 | z1
            · rw [z1, Nat.zero_add]; exact (h9.2.2.2.2 (by omega)).2.2.1
            · rw [z1, Nat.add_zero]; exact (h9.2.2.2.1 (by omega)).2.2.1
          have b1 : 1 ≤ ix r 24 n + ix r 25 n := by omega
          have b2 : ix r 24 n + ix r 25 n ≤ nE r := by rcases h9.2.2.1 with z1 | z1 <;> omega
          have hkk := h4.2.2.1 _ b1 b2 hpw
          obtain ⟨n1, n2⟩ := wn_at h4.2.1 h4.2.2.1 b1 b2 hpw
          refine ⟨hkk.1.1, (c_number w1 _ hkk.1.1 n1 (K_nz hz n1)).I ?_⟩
          rintro v w2 ⟨rfl, rfl⟩
          exact rf _ (fun h => absurd h (by decide)) (fun h => absurd h (by decide)) (fun h => absurd h (by decide)) (fun h => absurd h (by decide)) (fun h => absurd h (by decide)) (fun h => absurd h (by decide)) (fun h => absurd h (by decide)) (fun h => absurd h (by decide)) (fun h => absurd h (by decide)) (fun _ => by rw [hsum, n2]) (fun _ _ _ _ _ _ _ _ _ z => absurd rfl z)
        · have hs0 : ix r 24 n + ix r 25 n = 0 := by
            apply Classical.byContradiction
            intro e
            rw [if_neg e] at z
            have b2 : ix r 24 n + ix r 25 n ≤ nE r := by rcases h9.2.2.1 with z1 | z1 <;> omega
            have hpw : paR r (ix r 24 n + ix r 25 n) = 0 := by
              rcases h9.2.2.1 with z1 | z1
              · rw [z1, Nat.zero_add]; exact (h9.2.2.2.2 (by omega)).2.2.1
              · rw [z1, Nat.add_zero]; exact (h9.2.2.2.1 (by omega)).2.2.1
            exact K_nz hz (h4.2.2.1 _ (by omega) b2 hpw).1.1 z
          exact rf _ (fun h => absurd h (by decide)) (fun h => absurd h (by decide)) (fun h => absurd h (by decide)) (fun h => absurd h (by decide)) (fun h => absurd h (by decide)) (fun h => absurd h (by decide)) (fun h => absurd h (by decide)) (fun h => absurd h (by decide)) (fun h => absurd h (by decide)) (fun _ => by rw [hsum, hs0]; rfl) (fun _ _ _ _ _ _ _ _ _ z => absurd rfl z)
    · exact rf _ (fun z => absurd z z0) (fun z => absurd z z1) (fun z => absurd z z2) (fun z => absurd z z3) (fun z => absurd z z4) (fun z => absurd z z5) (fun z => absurd z z6) (fun z => absurd z z7) (fun z => absurd z z8) (fun z => absurd z z9) (fun _ _ _ _ _ _ _ _ _ _ => rfl)
