/-! ===== owe, parcels ===== -/
theorem EJ.monoQ {X : Cx} {M : Me} {B : Bu} {Q Q' : Option Av → Wd → Prop} {rc rs pc : Nat} {lv : List (Nat × Av)} {st : List Av} {w : Wd} (h : EJ X M (vw X B Q) rc rs pc lv st w) (hq : ∀ r w', Q r w' → Q' r w') : EJ X M (vw X B Q') rc rs pc lv st w := by
  intro p e s m args below meth c H locs cells slots ls hA hV hR hS hl hc hs hcr hsr T hT Y
  obtain ⟨t, a, b⟩ := h p e s m args below meth c H locs cells slots ls hA hV hR hS hl hc hs hcr hsr T hT Y
  refine ⟨t, a, ?_⟩
  unfold vw MQ at *
  obtain ⟨o, b1, b2, ⟨r, w', c1, c2, c3⟩, b4⟩ := b
  exact ⟨o, b1, b2, ⟨r, w', c1, hq r w' c2, c3⟩, b4⟩
def oweF (r : Rs) (n : Nat) (s : Int64) : Int32 := if rI r 3 n ≠ 3 then 4 else if s < 0 ∨ ¬ s ≤ rJ r 12 (whR r n) then 5 else if livB r (sS r 39) (sS r 39) n = false then 6 else if fiR r n ≠ 0 ∨ ¬ sumF (rJ r 8) 0 (lvs (fiR r) (whR r n)) - rJ r 8 n + s ≤ rJ r 12 (whR r n) then 8 else 0
theorem c_oweFault {X : Cx} (w : Wd) (x : Nat) (r : Rs) (hz : wK w 0 = 0) (hC : CS w x r) (hI : RI r) (h4 : C4 w x r) (n : Nat) (s : Int64) (h1 : 1 ≤ n) (h2 : n ≤ nE r) : Ct X bX10_oweFault mX10_oweFault [vR x, vR (eA w x n), vJ s] w (qI fun v w' => v = oweF r n s ∧ w' = w) := by
  obtain ⟨hc, hf, hb, hE, hp, hd⟩ := hI
  have hCe := h4.2.1 n h1 h2
  obtain ⟨k1, k2, k3⟩ := whole_of_e hE h4.2.2.1 h1 h2
  have hk := h4.2.2.1 _ k1 k2 k3
  have h0 := K_nz hz hCe.1.1
  have hkd : rI r 3 (whR r n) = rI r 3 n := ((hE n h1 h2).2.2.2.1.2.2.1).symm
  refine oX10_oweFault X _ x _ s w ⟨fun _ => ?_, fun q => absurd q h0⟩
  rw [hCe.1.2.2.1]
  refine ⟨hCe.1.1, hk.1.1, hk.2.2.1.1, ?_⟩
  rw [hk.2.2.1.2.1, hkd, hk.2.2.1.2.2.2.1, lg_lt, lg_le]
  refine ⟨fun q => ⟨fun hs => ⟨by simp [oweF, q, hs], rfl⟩, fun hs => ⟨fun hs2 => ⟨hC.1.1, (c_livesE w x r hz hC hE h4.2.2.1 n h1 h2).I ?_⟩, fun hs2 => ⟨by simp [oweF, q, hs2], rfl⟩⟩⟩, fun q => ⟨by simp [oweF, q], rfl⟩⟩
  rintro v w1 ⟨rfl, rfl⟩
  refine ⟨fun hl => ⟨hCe.1.1, ?_⟩, fun hl => ⟨by rw [bI_0] at hl; simp [oweF, q, hs, hs2, hl], rfl⟩⟩
  rw [bI_n] at hl
  rw [hCe.1.2.2.1]
  refine ⟨hk.1.1, (c_owedWhole w1 x r hc hE h4.2.1 h4.2.2.1 _ k1 k2 k3).J ?_⟩
  rintro v w2 ⟨rfl, rfl⟩
  rw [hCe.2.1.2.1, hk.2.2.1.2.2.2.1, lg_gt, hCe.2.1.2.2.1]
  have hlt : ∀ a b : Int64, a < b ↔ ¬ b ≤ a := fun a b => by rw [Int64.lt_iff_toInt_lt, Int64.le_iff_toInt_le]; omega
  refine ⟨hCe.1.1, hk.2.2.1.1, fun ht => ?_, fun ht => ?_⟩
  · rw [hlt] at ht
    have h8 : oweF r n s = 8 := by simp [oweF, q, hs, hs2, hl, ht]
    rw [h8]
    exact ⟨fun _ => ⟨rfl, rfl⟩, fun _ => ⟨fun z => absurd rfl z, fun _ => ⟨rfl, rfl⟩⟩⟩
  · rw [hlt, Classical.not_not] at ht
    refine ⟨fun hp => ?_, fun hp => ⟨fun _ => ?_, fun z => absurd z (by decide)⟩⟩
    · rw [bI_n] at hp
      have : fiR r n ≠ 0 := by simpa using hp
      simp [oweF, q, hs, hs2, hl, this]
    · rw [bI_0] at hp
      have : fiR r n = 0 := by simpa using hp
      simp [oweF, q, hs, hs2, hl, ht, this]
theorem s_oweRef {X : Cx} {w0 : Wd} {m : Nat} (hS : Sh w0 m) (r : Rs) (hI : RI r) (n : Nat) (s : Int64) (h1 : 1 ≤ n) (h2 : n ≤ nE r) : CM X w0 m bX11_owe mX11_owe [vI (nI n), vJ s] r (pI fun u r1 => (oweF r n s ≠ 0 → u = 0 ∧ Pe (uS r 41 (oweF r n s)) r1) ∧ (oweF r n s = 0 → u = 1 ∧ Pe (uJ (uS r 41 0) 8 n s) r1)) := by
  obtain ⟨hc, hf, hb, hE, hp, hd⟩ := hI
  have hN := hc.2.1.2
  have hnc : (nI n).toNatClampNeg = n := nI_clamp (by omega)
  have hv : vp_in (nI n) 301 := inN (by omega) (by omega)
  have hIn := hE n h1 h2
  have hw2 : whR r n ≤ n := hIn.2.1.2.1
  have hwc : (nI (whR r n)).toNatClampNeg = whR r n := nI_clamp (by omega)
  have hvw : vp_in (nI (whR r n)) 301 := inN (by omega) (by omega)
  have no : ∀ (r' : Rs) (f : Int32), Pe r r' → oweF r n s = f → f ≠ 0 → CM X w0 m bX11_no mX11_no [vI f] r' (pI fun x7 r9 => (x7 = 0 ∨ x7 = 1) ∧ (oweF r n s ≠ 0 → x7 = 0 ∧ Pe (uS r 41 (oweF r n s)) r9) ∧ (oweF r n s = 0 → x7 = 1 ∧ Pe (uJ (uS r 41 0) 8 n s) r9)) := by
    intro r' f h hpf hf0
    refine (cm_no hS h f).I ?_
    rintro u r1 ⟨h01, rfl, hq⟩
    rw [hpf]
    exact ⟨h01, fun _ => ⟨rfl, hq⟩, fun q => absurd q hf0⟩
  refine pX11_owe X w0 m hS _ _ s r ((s_isEntry hS r _).I ?_)
  rintro v r1 ⟨rfl, rfl⟩
  rw [ent_nI hc h1 h2, hnc, hIn.1.2.1, hwc, lg_lt, lg_le]
  refine ⟨fun _ => ⟨hv, hv, fun q => ⟨fun hs => no r1 5 (Pe.rf _) (by simp [oweF, q, hs]) (by decide), fun hs => ⟨hvw, fun hs2 => (s_livesNow hS r1 hc hE n h1 h2).I ?_, fun hs2 => no r1 5 (Pe.rf _) (by simp [oweF, q, hs2]) (by decide)⟩⟩, fun q => no r1 4 (Pe.rf _) (by simp [oweF, q]) (by decide)⟩, fun q => absurd q (by decide)⟩
  rintro v r2 ⟨rfl, rfl⟩
  have hP2 : Pe r1 (uS (uS r1 45 (sS r1 39)) 46 (sS r1 39)) := pe_now (Pe.rf _) _ _
  refine ⟨fun hl => ⟨hv, ?_⟩, fun hl => no _ 6 hP2 (by rw [bI_0] at hl; simp [oweF, q, hs, hs2, hl]) (by decide)⟩
  rw [bI_n] at hl
  rw [hP2.2.2.1 9 rfl, hIn.1.2.2.2.1]
  refine ⟨fun h9 => no _ 8 hP2 ?_ (by decide), fun h9 => ?_⟩
  · have : fiR r1 n ≠ 0 := fun z => h9 (by rw [z]; rfl)
    simp [oweF, q, hs, hs2, hl, this]
  · have hfi : fiR r1 n = 0 := by
      rw [nI_z (by have := hIn.2.2.1.2.2; omega)] at h9
      exact h9
    have hI2 := RI4_mv hP2.Sr ⟨hc, hf, hb, hE, hp⟩
    refine (s_sumBelow hS _ hI2.1 hI2.2.2.2.1 (whR r1 n) hIn.2.1.1 (by rw [hP2.nn.2.1]; omega)).J ?_
    rintro v r3 ⟨rfl, rfl⟩
    have hP3 : Pe r1 (setL (uS (uS r1 45 (sS r1 39)) 46 (sS r1 39)) (whR r1 n)) := hP2.tr (Pe.sL _)
    rw [hP2.fi, hP2.2.2.2 8 rfl, hP3.2.2.2 8 rfl, hP3.2.2.2 12 rfl, lg_le]
    refine ⟨hv, hvw, fun ht => ⟨hv, ?_⟩, fun ht => no _ 8 hP3 (by simp [oweF, q, hs, hs2, hl, ht]) (by decide)⟩
    have hpf : oweF r1 n s = 0 := by simp [oweF, q, hs, hs2, hl, hfi, ht]
    rintro r4 rfl r5 rfl
    refine ⟨fun q => absurd hpf q, fun _ => ⟨rfl, fun k hk => ?_, hP3.2.1, hP3.2.2.1, fun k hk => ?_⟩⟩
    · show (if k = 41 then 0 else sS _ k) = (if k = 41 then 0 else sS r1 k)
      by_cases h : k = 41
      · simp [h]
      · simp only [if_neg h]; exact hP3.1 k hk
    · funext i
      show (if k = 8 ∧ i = n then _ else rJ _ k i) = (if k = 8 ∧ i = n then _ else rJ r1 k i)
      by_cases h : k = 8 ∧ i = n
      · simp [h]
      · simp only [if_neg h]; exact congrFun (hP3.2.2.2 k hk) i
theorem RIx_owe {r : Rs} {n : Nat} {s : Int64} (hI : RI r) (h1 : 1 ≤ n) (h2 : n ≤ nE r) (hz : oweF r n s = 0) : RIx (uJ r 8 n s) := by
  have f : fiR r n = 0 ∧ rI r 3 n = 3 ∧ (0 : Int64) ≤ s ∧ s ≤ rJ r 12 (whR r n) ∧ sumF (rJ r 8) 0 (lvs (fiR r) (whR r n)) - rJ r 8 n + s ≤ rJ r 12 (whR r n) := by
    unfold oweF at hz
    refine ⟨?_, ?_, ?_, ?_, ?_⟩
    · apply Classical.byContradiction; intro z; revert hz; simp [z]; grind
    · apply Classical.byContradiction; intro z; revert hz; simp [z]
    · apply Classical.byContradiction; intro z
      have : s < 0 := by rw [Int64.le_iff_toInt_le] at z; rw [Int64.lt_iff_toInt_lt]; omega
      revert hz; simp [this]; grind
    · apply Classical.byContradiction; intro z; revert hz; simp [z]; grind
    · apply Classical.byContradiction; intro z; revert hz; simp [z]; grind
  obtain ⟨f1, f2, f3, f4, f5⟩ := f
  have n4 : rI r 3 n ≠ 4 := by rw [f2]; decide
  have hl := lsum_wh hI h1 h2 n4
  obtain ⟨k1, k2, k3⟩ := whole_of_r hI h1 h2
  have hx := (hI.2.2.1.2.2.2.2.2 (whR r n) k1 k2).2.2 k3
  have hso := sumF_int hI k1 k2 (by
    have := (hI.2.2.2.1 n h1 h2).2.2.2.1.2.2.1; rw [← this]; exact n4) k3
  have hn8 := (hI.2.2.1.2.2.2.2.2 n h1 h2).2.1.1
  have hle := lsum_ge hI h1 h2 f1
  have b1 := hx.2.2.2.1
  have b2 := hx.2.2.2.2
  simp only [Int64.le_iff_toInt_le] at f3 f4 hn8 b1 b2
  have z0 : (0 : Int64).toInt = 0 := rfl
  have zM : (999999999999 : Int64).toInt = 999999999999 := rfl
  rw [z0] at f3 hn8 b1
  rw [zM] at b2
  have f5' : lsum r (whR r n) - (rJ r 8 n).toInt + s.toInt ≤ 999999999999 := by
    rw [Int64.le_iff_toInt_le, Int64.toInt_add, Int64.toInt_sub, hso] at f5
    rw [Int.bmod_eq_of_le (n := lsum r (whR r n) - (rJ r 8 n).toInt) (by omega) (by omega), Int.bmod_eq_of_le (by omega) (by omega)] at f5
    omega
  exact RIx_8 hI h1 h2 f1 s (by rw [Int64.le_iff_toInt_le, z0]; exact f3) (fun z => absurd z n4) (fun _ => f5')
theorem sm_owe (e : Int32) (s : Int64) : SmI bX10_owe mX10_owe bX11_owe mX11_owe [vI e, vJ s] := by
  intro X w x m r hA
  have hC := hA.2.2.1
  have hc := hA.2.2.2.2.1
  have h4 := hA.2.2.2.1
  refine oX10_owe X _ x e s w ⟨hC.1.1, (c_entryAt w x r e hC hc).R ?_⟩
  rintro a w1 ⟨rfl, rfl⟩
  cases he : entB r e
  · rw [if_neg (by decide)]
    refine ⟨hC.1.1, oX10_oweFault X _ x 0 s w1 ⟨fun q => absurd rfl q, fun _ => ⟨hC.1.1, (c_settle w1 x 1 hC.1.1).I ?_⟩⟩⟩
    rintro v w2 ⟨rfl, rfl⟩
    refine ⟨fun _ => ⟨_, AT_st 1 hA, ?_⟩, fun q => absurd rfl q⟩
    have hS := (AT_st 1 hA).1.1
    refine pX11_owe X _ m hS _ e s r ((s_isEntry hS r e).I ?_)
    rintro v r1 ⟨rfl, rfl⟩
    rw [he]
    exact ⟨fun q => absurd rfl q, fun _ => cm_no hS (Pe.rf _) 1⟩
  · rw [if_pos rfl]
    obtain ⟨n, rfl, h1, h2⟩ := ent_of hc he
    have hN := hc.2.1.2
    have hnc : (nI n).toNatClampNeg = n := nI_clamp (by omega)
    rw [hnc]
    have hCe := h4.2.1 n h1 h2
    have h0 := K_nz hA.2.1.1 hCe.1.1
    refine ⟨hC.1.1, (c_oweFault w1 x r hA.2.1.1 hC hA.2.2.2.2 h4 n s h1 h2).I ?_⟩
    rintro v w2 ⟨rfl, rfl⟩
    refine ⟨hC.1.1, (c_settle w2 x _ hC.1.1).I ?_⟩
    rintro v w3 ⟨rfl, rfl⟩
    refine ⟨fun hq => ?_, fun hq => ⟨fun _ => ⟨hCe.1.1, ?_⟩, fun q => absurd q h0⟩⟩
    · rw [bI_0] at hq
      have hne : oweF r n s ≠ 0 := by simpa using hq
      refine ⟨_, AT_st (oweF r n s) hA, (s_oweRef (AT_st (oweF r n s) hA).1.1 r hA.2.2.2.2 n s h1 h2).I ?_⟩
      rintro u r1 ⟨hu, -⟩
      exact hu hne
    · rw [bI_n] at hq
      have hz : oweF r n s = 0 := by simpa using hq
      rw [hz]
      rintro w4 rfl
      have hT := AT_uJ (r' := uS r 41 0) (Or.inl ⟨rfl, rfl⟩) h1 h2 s (AT_st 0 hA) (RIx_owe hA.2.2.2.2 h1 h2 hz)
      refine ⟨_, hT, (s_oweRef hT.1.1 r hA.2.2.2.2 n s h1 h2).I ?_⟩
      rintro u r1 ⟨-, hu⟩
      exact hu hz
/-- the bits of the parcels where an entry lies, from p on, n of them -/
def prB (f : Nat → Bool) (b : Int64) (p : Nat) : Nat → Int64
  | 0 => b
  | n + 1 => prB f (if f p then b ||| ((1 : Int64) <<< ((nI p).toInt64 &&& 63)) else b) (p + 1) n
theorem prB_none (f : Nat → Bool) : ∀ (n p : Nat) (b : Int64), (∀ q, p ≤ q → f q = false) → prB f b p n = b := by
  intro n
  induction n with
  | zero => intro p b _; rfl
  | succ n ih =>
    intro p b h
    unfold prB
    rw [h p (Nat.le_refl _)]
    exact ih (p + 1) b (fun q hq => h q (by omega))
theorem prB_app (f : Nat → Bool) : ∀ (n k p : Nat) (b : Int64), prB f b p (n + k) = prB f (prB f b p n) (p + n) k := by
  intro n
  induction n with
  | zero => intro k p b; rw [Nat.zero_add]; rfl
  | succ n ih =>
    intro k p b
    rw [show n + 1 + k = (n + k) + 1 by omega]
    show prB f _ (p + 1) (n + k) = prB f (prB f _ (p + 1) n) (p + (n + 1)) k
    rw [ih, show p + 1 + n = p + (n + 1) by omega]
theorem prB_congr {f g : Nat → Bool} : ∀ (n p : Nat) (b : Int64), (∀ q, p ≤ q → q < p + n → f q = g q) → prB f b p n = prB g b p n := by
  intro n
  induction n with
  | zero => intro p b _; rfl
  | succ n ih =>
    intro p b h
    unfold prB
    rw [h p (Nat.le_refl _) (by omega)]
    exact ih (p + 1) _ (fun q h1 h2 => h q (by omega) (by omega))
theorem sm_parcels (e : Int32) : SmJ bX10_parcels mX10_parcels bX11_parcels mX11_parcels [vI e] := by
  intro X w x m r hA
  have hC := hA.2.2.1
  have hc := hA.2.2.2.2.1
  have h4 := hA.2.2.2.1
  have hS := hA.1.1
  refine oX10_parcels X _ x e w ⟨hC.1.1, (c_entryAt w x r e hC hc).R ?_⟩
  rintro a w1 ⟨rfl, rfl⟩
  have hPn : Pe r (uS (uS r 45 (sS r 39)) 46 (sS r 39)) := pe_now (Pe.rf _) _ _
  cases he : entB r e
  · rw [if_neg (by decide)]
    refine ⟨fun q => absurd rfl q, fun _ => ⟨r, hA, pX11_parcels X _ m hS _ e r ((s_now hS r).V ?_)⟩⟩
    rintro r1 rfl
    refine rX11_parcels_9 X _ m hS _ e 0 0 _ ((s_isEntry hS _ e).I ?_)
    rintro v r2 ⟨rfl, rfl⟩
    have : entB (uS (uS r 45 (sS r 39)) 46 (sS r 39)) e = false := he
    rw [this]
    exact ⟨fun _ => ⟨rfl, hPn⟩, fun q => absurd rfl q⟩
  · rw [if_pos rfl]
    obtain ⟨n, rfl, h1, h2⟩ := ent_of hc he
    have hN := hc.2.1.2
    have hnc : (nI n).toNatClampNeg = n := nI_clamp (by omega)
    rw [hnc]
    have hCe := h4.2.1 n h1 h2
    have h0 := K_nz hA.2.1.1 hCe.1.1
    have hIn := hA.2.2.2.2.2.2.2.1 n h1 h2
    have hsz := hA.2.2.2.2.2.1 _ hIn.2.2.2.1.1
    refine ⟨fun _ => ?_, fun q => absurd q h0⟩
    -- the class
    have cl : ∀ (k p : Nat) (b : Int64), p + k = 60 → jX10_parcels_17 X (fun v w' => v = prB (fun p => decide (p < ix r 0 (foR r n)) && liesB r (sS r 39) (sS r 39) n p) b p k ∧ w' = w1) x (eA w1 x n) b (nI p) w1 := by
      intro k
      induction k with
      | zero =>
        intro p b hp
        have hp : p = 60 := by omega
        subst hp
        exact tX10_parcels_17 X _ _ _ _ _ w1 ⟨fun _ => ⟨rfl, rfl⟩, fun q => absurd (by decide) q⟩
      | succ k ih =>
        intro p b hp
        refine tX10_parcels_17 X _ _ _ _ _ w1 ⟨fun q => ?_, fun _ => ⟨hC.1.1, hCe.1.1, (c_liesOn w1 x r hA.2.1.1 hA.2.2.2.2 ⟨hC, h4.1, h4.2.1, h4.2.2.1, h4.2.2.2.1⟩ ub_all (wR w1 10 8 x) p n hC.1.2.2.2.2.2.2 (by omega) h1 h2).I ?_⟩⟩
        · have q : nI 60 ≤ nI p := q
          rw [nI_leI (by omega) (by omega)] at q
          omega
        · rintro v w2 ⟨rfl, rfl⟩
          rw [hC.2.1.2.2.2.1, hC.2.1.2.2.2.2.1, ← nI_succ]
          refine ⟨fun hq => ?_, fun hq => ?_⟩
          · rw [bI_0] at hq
            have := ih (p + 1) b (by omega)
            unfold prB
            rw [hq]
            exact this
          · rw [bI_n] at hq
            have := ih (p + 1) (b ||| ((1 : Int64) <<< ((nI p).toInt64 &&& 63))) (by omega)
            unfold prB
            rw [hq]
            exact this
    -- the reference
    have rf : ∀ (k p : Nat) (b : Int64), p + k = ix r 0 (foR r n) → iX11_parcels_9 X w1 m (fun u r1 => u = prB (liesB r (sS r 39) (sS r 39) n) b p k ∧ Pe r r1) (nI n) b (nI p) (uS (uS r 45 (sS r 39)) 46 (sS r 39)) := by
      intro k
      have hIn' := hIn.1.1
      induction k with
      | zero =>
        intro p b hp
        refine rX11_parcels_9 X _ m hS _ _ b _ _ ((s_isEntry hS _ _).I ?_)
        rintro v r2 ⟨rfl, rfl⟩
        have : entB (uS (uS r 45 (sS r 39)) 46 (sS r 39)) (nI n) = true := he
        rw [this, hnc, hPn.2.2.1 4 rfl, hPn.2.2.1 0 rfl, hIn.1.1, nI_clamp (show foR r n < 2 ^ 31 by have := hIn.2.2.2.1.1; have := hc.1.2; omega), hsz.1, nI_leI (by omega) (by omega)]
        exact ⟨fun q => absurd q (by decide), fun _ => ⟨inN (by omega) (by omega), inN (by have := hIn.2.2.2.1.1; have := hc.1.2; omega) (by omega), fun _ => ⟨rfl, hPn⟩, fun q => absurd (by omega) q⟩⟩
      | succ k ih =>
        intro p b hp
        refine rX11_parcels_9 X _ m hS _ _ b _ _ ((s_isEntry hS _ _).I ?_)
        rintro v r2 ⟨rfl, rfl⟩
        have : entB (uS (uS r 45 (sS r 39)) 46 (sS r 39)) (nI n) = true := he
        rw [this, hnc, hPn.2.2.1 4 rfl, hPn.2.2.1 0 rfl, hIn.1.1, nI_clamp (show foR r n < 2 ^ 31 by have := hIn.2.2.2.1.1; have := hc.1.2; omega), hsz.1, nI_leI (by omega) (by omega)]
        refine ⟨fun q => absurd q (by decide), fun _ => ⟨inN (by omega) (by omega), inN (by have := hIn.2.2.2.1.1; have := hc.1.2; omega) (by omega), fun q => absurd q (by omega), fun _ => ?_⟩⟩
        have hI2 := RI_mv hPn hA.2.2.2.2
        refine (s_lies hS _ hI2.1 hI2.2.2.2.1 n p (by omega) h1 (by rw [hPn.nn.2.1]; exact h2)).I ?_
        rintro v r3 ⟨rfl, rfl⟩
        rw [hPn.lies, ← nI_succ]
        have hs45 : sS (uS (uS r 45 (sS r 39)) 46 (sS r 39)) 45 = sS r 39 := rfl
        have hs46 : sS (uS (uS r 45 (sS r 39)) 46 (sS r 39)) 46 = sS r 39 := rfl
        rw [hs45, hs46]
        refine ⟨fun hq => ?_, fun hq => ?_⟩
        · rw [bI_0] at hq
          have h9 := ih (p + 1) b (by omega)
          unfold prB
          rw [hq, show b ||| 0 = b from b6_ext (fun i _ => by rw [b6_or, b6_0, Bool.or_false])]
          exact h9
        · rw [bI_n] at hq
          have h9 := ih (p + 1) (b ||| ((1 : Int64) <<< ((nI p).toInt64 &&& 63))) (by omega)
          unfold prB
          rw [hq]
          exact h9
    have hcl := cl 60 0 0 rfl
    refine (show jX10_parcels_17 X _ x (eA w1 x n) 0 0 w1 from ?_)
    have heq : prB (fun p => decide (p < ix r 0 (foR r n)) && liesB r (sS r 39) (sS r 39) n p) 0 0 60 = prB (liesB r (sS r 39) (sS r 39) n) 0 0 (ix r 0 (foR r n)) := by
      rw [show 60 = ix r 0 (foR r n) + (60 - ix r 0 (foR r n)) by omega, prB_app, prB_none _ _ _ _ (fun q hq => by simp; omega)]
      exact prB_congr _ _ _ (fun q _ hq => by simp; omega)
    rw [heq] at hcl
    refine EJ.monoQ hcl ?_
    rintro y w2 ⟨v, rfl, rfl, rfl⟩
    refine ⟨_, rfl, ?_⟩
    exact ⟨r, hA, pX11_parcels X _ m hS _ _ r ((s_now hS r).V (by rintro r1 rfl; exact rf _ 0 0 (by omega)))⟩
