/-! ===== as, rank, why ===== -/
theorem c_newMoment {X : Cx} (W0 : Wd) (q : Nat) (hq : wK W0 q = 0) (h0 : q ≠ 0) (d k : Int32) : Ct X bX4_init mX4_init [vR q, vI d, vI k] (nO W0 4 q) (qV fun w' => Ag W0 w' ∧ wK w' 0 = wK W0 0 ∧ wK w' q = 5 ∧ wI w' 4 0 q = d ∧ wI w' 4 1 q = k) := by
  refine oX4_init X _ q d k _ ⟨by rw [nO_new]; decide, nO_new, ?_⟩
  rintro w3 rfl w5 rfl
  exact ⟨((Ag.nO (w := W0) 4 q hq).sI 4 0 q _ hq).sI 4 1 q _ hq, nO_z h0, nO_new, by simp [S_sI], by simp [S_sI]⟩
theorem c_pastR {X : Cx} (w : Wd) (x : Nat) (r : Rs) (hC : CS w x r) (d : Int32) : Ct X bX10_isPastOrToday mX10_isPastOrToday [vR x, vI d] w (qI fun v w' => v = bI (!(decide (d < 0)) && !(decide (sS r 39 < d))) ∧ w' = w) := by
  refine oX10_isPastOrToday X _ x d w ⟨fun h => ⟨by simp [h, bI], rfl⟩, fun h => ⟨hC.1.1, hC.1.2.2.2.2.2.2, ?_⟩⟩
  rw [hC.2.1.2.2.2.1]
  exact ⟨fun h2 => ⟨by simp [h2, bI], rfl⟩, fun h2 => ⟨by simp [h, h2, bI], rfl⟩⟩
set_option maxHeartbeats 2000000 in
theorem sm_as (p d k i : Int32) : SmI bX10_as mX10_as bX11_as mX11_as [vI p, vI d, vI k, vI i] := by
  intro X w x m r hA
  have hC := hA.2.2.1
  have hI := hA.2.2.2.2
  have hc := hI.1
  have hf := hI.2.1
  have h4 := hA.2.2.2.1
  have hN := hc.2.1.2
  have e42 : wI w 10 10 x = sS r 42 := hC.2.1.2.2.2.2.2.2.1
  refine oX10_as X _ x p d k i w ⟨hC.1.1, ?_⟩
  rw [e42]
  refine (c_folioAt w x r (sS r 42) hC hc).R ?_
  rintro a w1 ⟨rfl, rfl⟩
  refine (c_parcelFault w1 x r hA.2.1.1 hc hf h4.1 (sS r 42) p).I ?_
  rintro v w2 ⟨rfl, rfl⟩
  -- a fault
  have bad : ∀ F : Int32, F ≠ 0 → (∀ W : Wd, Sh W m → CM X W m bX11_as mX11_as [vI p, vI d, vI k, vI i] r (pI fun u r1 => u = -1 ∧ Pe (uS r 41 F) r1)) → jX10_as_42 X (fun v w1 => ∃ r', AT w1 x m r r' ∧ CM X w1 m bX11_as mX11_as [vI p, vI d, vI k, vI i] r (pI fun u r1 => u = v ∧ Pe r' r1)) x p d k i (if sS r 42 < 0 ∨ sS r 2 ≤ sS r 42 then 0 else fA w2 x (sS r 42).toNatClampNeg) F w2 := by
    intro F hF href
    refine tX10_as_42 X _ _ _ _ _ _ _ _ w2 ⟨hC.1.1, (c_settle w2 x F hC.1.1).I ?_⟩
    rintro v w3 ⟨rfl, rfl⟩
    refine ⟨fun z => ?_, fun _ => ⟨_, AT_st F hA, href _ (AT_st F hA).1.1⟩⟩
    rw [bI_n] at z; exact absurd (by simpa using z) hF
  by_cases hz : wrgF r (sS r 42) p = 0
  · rw [hz]
    refine ⟨fun q => absurd rfl q, fun _ => ⟨hC.1.1, (c_pastR w2 x r hC d).I ?_⟩⟩
    rintro v w3 ⟨rfl, rfl⟩
    have bad5 : ¬ (¬ d < 0 ∧ ¬ sS r 39 < d ∧ ¬ k < 0 ∧ ¬ sS r 39 < k) → ∀ W : Wd, Sh W m → CM X W m bX11_as mX11_as [vI p, vI d, vI k, vI i] r (pI fun u r1 => u = -1 ∧ Pe (uS r 41 5) r1) := by
      intro hn W hS
      refine pX11_as X _ m hS _ p d k i r ((s_wrong hS r hc hf _ _).I ?_)
      rintro v r1 ⟨rfl, rfl⟩
      rw [hz]
      refine ⟨fun _ => ⟨fun _ => cm_ref hS (Pe.rf _) 5, fun y1 => ⟨fun _ => cm_ref hS (Pe.rf _) 5, fun y2 => ⟨fun _ => cm_ref hS (Pe.rf _) 5, fun y3 => ⟨fun y4 => ?_, fun _ => cm_ref hS (Pe.rf _) 5⟩⟩⟩⟩, fun z => absurd (by decide) z⟩
      exfalso
      refine hn ⟨y1, y2, y3, fun z => ?_⟩
      rw [Int32.le_iff_toInt_le] at y4; rw [Int32.lt_iff_toInt_lt] at z; omega
    refine ⟨fun q => bad 5 (by decide) (bad5 (fun y => ?_)), fun q => ⟨hC.1.1, (c_pastR w3 x r hC k).I ?_⟩⟩
    · rw [bI_0] at q; simp [y.1, y.2.1] at q
    rw [bI_n] at q
    have hd : ¬ d < 0 ∧ ¬ sS r 39 < d := by simpa using q
    rintro v w4 ⟨rfl, rfl⟩
    refine ⟨fun q2 => ?_, fun q2 => bad 5 (by decide) (bad5 (fun y => ?_))⟩
    · rw [bI_n] at q2
      have hk : ¬ k < 0 ∧ ¬ sS r 39 < k := by simpa using q2
      obtain ⟨a, b, e42', rfl, ha, hb, hs6, hac, hbc, h0, ht⟩ := wrg0 hc hf hz
      rw [e42', if_neg h0, hac]
      refine tX10_as_42 X _ _ _ _ _ _ _ _ w4 ⟨hC.1.1, (c_settle w4 x 0 hC.1.1).I ?_⟩
      rintro v w5 ⟨rfl, rfl⟩
      refine ⟨fun _ => ?_, fun z => absurd z (by decide)⟩
      have hA0 := AT_st 0 hA
      rintro q hq0 hq1 w6 rfl
      refine (c_newMoment (sI w4 10 13 x 0) q hq0 hq1 d k).V ?_
      rintro w7 ⟨g7, z7, k7, d7, a7⟩
      have hA7 := AG_all g7 (z7.trans hA0.2.1.1) hA0
      have ge := AG_e g7 hA0
      have hfa : fA w4 x a = fA w7 x a := by rw [ge.2.1]; rfl
      rw [hfa]
      have hz7 : wrgF (uS r 41 0) (nI a) (nI b) = 0 := by rw [← e42']; exact hz
      refine ⟨hA7.2.2.1.1.1, (c_nth (r := uS r 41 0) (dy := d) (as := k) hA7 ha hb hz7 k7 d7 a7 i).I ?_⟩
      rintro v w' ⟨p1, p2⟩
      rw [ordS_st] at p1 p2
      have hO := ordS_ok (r := r) (dy := d) (as := k) (p := b) (f := a) hI
      obtain ⟨hin, hlen⟩ := hO.in hI
      have ref : ∀ W : Wd, Sh W m → CM X W m bX11_as mX11_as [vI (nI b), vI d, vI k, vI i] r (pI fun u r1 => ((¬ i < 0 ∧ i < nI (ordS r d k b a).1.length) → u = nI ((ordS r d k b a).1.getD i.toNatClampNeg 0) ∧ Pe (uS r 41 0) r1) ∧ (¬ (¬ i < 0 ∧ i < nI (ordS r d k b a).1.length) → u = -1 ∧ Pe (uS r 41 5) r1)) := by
        intro W hS
        refine pX11_as X _ m hS _ _ d k i r ((s_wrong hS r hc hf _ _).I ?_)
        rintro v r1 ⟨rfl, rfl⟩
        rw [hz]
        refine ⟨fun _ => ⟨fun z => absurd z hd.1, fun _ => ⟨fun z => absurd z hd.2, fun _ => ⟨fun z => absurd z hk.1, fun _ => ⟨fun _ => (s_view hS r1 d k).V ?_, fun z => ?_⟩⟩⟩⟩, fun z => absurd (by decide) z⟩
        · rintro r2 rfl
          have hV : Viw r1 d k (uS (uS r1 45 d) 46 k) := ⟨pe_now (Pe.rf _) _ _, rfl, rfl⟩
          have e42r : sS (uS (uS r1 45 d) 46 k) 42 = nI a := e42'
          rw [e42r]
          refine (s_orderOn hS hI (by omega) (by have := hc.1.2; omega) hV).V ?_
          rintro r3 ⟨hP, hOr⟩
          rw [hOr.1]
          have no : ¬ (¬ i < 0 ∧ i < nI (ordS r1 d k b a).1.length) → CM X W m bX11_refuse mX11_refuse [vI 5] r3 (pI fun u r1' => ((¬ i < 0 ∧ i < nI (ordS r1 d k b a).1.length) → u = nI ((ordS r1 d k b a).1.getD i.toNatClampNeg 0) ∧ Pe (uS r1 41 0) r1') ∧ (¬ (¬ i < 0 ∧ i < nI (ordS r1 d k b a).1.length) → u = -1 ∧ Pe (uS r1 41 5) r1')) := fun hn => by
            refine (cm_ref hS hP.1.1 5).I ?_
            rintro u r4 ⟨rfl, hq⟩
            exact ⟨fun z => absurd z hn, fun _ => ⟨rfl, hq⟩⟩
          refine ⟨fun z => no (fun q => q.1 z), fun z => ⟨fun z2 => ?_, fun z2 => no (fun q => z2 q.2)⟩⟩
          rintro r4 rfl
          obtain ⟨j, hj, rfl⟩ := nI_of z
          have hjl : j < (ordS r1 d k b a).1.length := (nI_ltI hj (by omega)).mp z2
          rw [nI_clamp hj]
          refine ⟨inN (by omega) (by decide), fun _ => ⟨?_, pe_cS hP.1.1 41 0⟩, fun q => absurd ⟨z, z2⟩ q⟩
          exact hOr.2.1 j hjl
        · have := hk.2
          rw [Int32.le_iff_toInt_le] at z; rw [Int32.lt_iff_toInt_lt] at this; omega
      have three : ∀ F : Int32, Pe (uS (uS (uS r 41 0) 41 0) 41 F) (uS r 41 F) := fun F => (pe_cS (pe_st2 r 0 0) 41 F).tr (pe_st2 r 0 F)
      by_cases hi : ¬ i < 0 ∧ i < nI (ordS r d k b a).1.length
      · obtain ⟨rfl, hT⟩ := p1 hi
        refine ⟨_, hT, (ref _ hT.1.1).I ?_⟩
        rintro u r1 ⟨hu, -⟩
        obtain ⟨rfl, hp⟩ := hu hi
        exact ⟨rfl, (three 0).tr hp⟩
      · obtain ⟨rfl, hT⟩ := p2 hi
        refine ⟨_, hT, (ref _ hT.1.1).I ?_⟩
        rintro u r1 ⟨-, hu⟩
        obtain ⟨rfl, hp⟩ := hu hi
        exact ⟨rfl, (three 5).tr hp⟩
    · rw [bI_0] at q2; simp [y.2.2.1, y.2.2.2] at q2
  · refine ⟨fun _ => bad _ hz (fun W hS => ?_), fun q => absurd q hz⟩
    refine pX11_as X _ m hS _ p d k i r ((s_wrong hS r hc hf _ _).I ?_)
    rintro v r1 ⟨rfl, rfl⟩
    exact ⟨fun q => absurd q (wrg_pos hz), fun _ => cm_ref hS (Pe.rf _) _⟩
def stF (r : Rs) (n : Nat) (p : Int32) : Int32 := if lieF r n p ≠ 0 then lieF r n p else if rI r 3 n = 6 then 6 else 0
theorem c_standing {X : Cx} {w : Wd} {x m : Nat} {r : Rs} (hA : AT w x m r r) (n : Nat) (p : Int32) (h1 : 1 ≤ n) (h2 : n ≤ nE r) : Ct X bX10_standing mX10_standing [vR x, vR (eA w x n), vI p] w (qR fun a w' => (stF r n p ≠ 0 → a = 0 ∧ AT w' x m r (uS r 41 (stF r n p))) ∧ (stF r n p = 0 → a ≠ 0 ∧ wK w' a = 10 ∧ AT w' x m r (uS r 41 0) ∧ wI w' 9 14 a = idx (ordS r (sS r 39) (sS r 39) p.toNatClampNeg (foR r n)).1 (whR r n) ∧ wI w' 9 15 a = (ordS r (sS r 39) (sS r 39) p.toNatClampNeg (foR r n)).2 (whR r n))) := by
  have hC := hA.2.2.1
  have hI := hA.2.2.2.2
  have hc := hI.1
  have hf := hI.2.1
  have hE := hI.2.2.2.1
  have h4 := hA.2.2.2.1
  have hz := hA.2.1.1
  have hCe := h4.2.1 n h1 h2
  have h0 := K_nz hz hCe.1.1
  obtain ⟨k1, k2, k3⟩ := whole_of_e hE h4.2.2.1 h1 h2
  have hk := h4.2.2.1 _ k1 k2 k3
  have hEn := hE n h1 h2
  have bad : ∀ F : Int32, F = stF r n p → F ≠ 0 → jX10_standing_33 X (fun a w' => (stF r n p ≠ 0 → a = 0 ∧ AT w' x m r (uS r 41 (stF r n p))) ∧ (stF r n p = 0 → a ≠ 0 ∧ wK w' a = 10 ∧ AT w' x m r (uS r 41 0) ∧ wI w' 9 14 a = idx (ordS r (sS r 39) (sS r 39) p.toNatClampNeg (foR r n)).1 (whR r n) ∧ wI w' 9 15 a = (ordS r (sS r 39) (sS r 39) p.toNatClampNeg (foR r n)).2 (whR r n))) x (eA w x n) p F w := by
    rintro F rfl hF
    refine tX10_standing_33 X _ _ _ _ _ w ⟨hC.1.1, (c_settle w x _ hC.1.1).I ?_⟩
    rintro v w3 ⟨rfl, rfl⟩
    refine ⟨fun _ => ⟨fun _ => ⟨rfl, AT_st _ hA⟩, fun z => absurd z hF⟩, fun z => ?_⟩
    rw [bI_n] at z; exact absurd (by simpa using z) hF
  refine oX10_standing X _ x _ p w ⟨hC.1.1, (c_lieFault w x r hz hC hI h4 n p h1 h2).I ?_⟩
  rintro v w1 ⟨rfl, rfl⟩
  rw [hCe.1.2.2.1, hk.2.2.1.2.1, ← hEn.2.2.2.1.2.2.1]
  refine ⟨fun hl => bad _ (by unfold stF; rw [if_pos hl]) hl, fun hl => ⟨fun z => absurd z h0, fun _ => ⟨hCe.1.1, hk.1.1, hk.2.2.1.1, fun h6 => ?_, fun h6 => bad 6 (by simp [stF, hl, h6]) (by decide)⟩⟩⟩
  have hst : stF r n p = 0 := by simp [stF, hl, h6]
  have hw0 : wrgF r (nI (foR r n)) p = 0 := by
    apply Classical.byContradiction; intro z
    unfold lieF at hl; rw [if_pos z] at hl; exact z hl
  obtain ⟨a, b, ea, rfl, ha, hb, hs6, hac, hbc, -, -⟩ := wrg0 hc hf hw0
  have hafo : a = foR r n := by
    have hF := hc.1.2
    have hfo := hEn.2.2.2.1.1
    exact ((nI_eq (by omega) (by omega)).mp ea).symm
  subst hafo
  rw [hl]
  refine tX10_standing_33 X _ _ _ _ _ w1 ⟨hC.1.1, (c_settle w1 x 0 hC.1.1).I ?_⟩
  rintro v w3 ⟨rfl, rfl⟩
  refine ⟨fun z => absurd z (by decide), fun _ => ⟨fun _ => ?_, fun z => absurd z h0⟩⟩
  have hA0 := AT_st 0 hA
  rintro q hq0 hq1 w7 rfl
  have gq : Ag (sI w1 10 13 x 0) (nO (sI w1 10 13 x 0) 6 q) := Ag.nO 6 q hq0
  have gx := gq x (kz hA0.2.2.1.1.1)
  have ge := gq (eA w1 x n) (kz hCe.1.1)
  have gw := gq (wA w1 x (whR r n)) (kz hk.1.1)
  rw [gx.2.2.2.2.1 10 6, gx.2.2.2.2.1 10 8, ge.2.2.2.2.1 2 1]
  have e21 : wR (sI w1 10 13 x 0) 2 1 (eA w1 x n) = wA w1 x (whR r n) := hCe.1.2.2.1
  rw [e21, gw.2.2.2.2.1 9 0]
  have e90 : wR (sI w1 10 13 x 0) 9 0 (wA w1 x (whR r n)) = fA (sI w1 10 13 x 0) x (foR r n) := by
    show wR w1 9 0 _ = fA w1 x _
    rw [hk.1.2.1, ← hEn.2.2.2.1.2.1]
  rw [e90]
  refine ⟨ge.1.trans hCe.1.1, gw.1.trans hk.1.1, gx.1.trans hA0.2.2.1.1.1, ?_⟩
  refine c_rankArr (r := uS r 41 0) (dy := sS r 39) (as := sS r 39) hA0 hq0 hq1 (by omega) ha hb (mo := wR (sI w1 10 13 x 0) 10 8 x) hA0.2.2.1.1.2.2.2.2.2.2 hA0.2.2.1.2.1.2.2.2.1 hA0.2.2.1.2.1.2.2.2.2.1 _ (fun wb w' hAb g hRQ hs hL hR h64 => ?_)
  rw [ordS_st] at hR
  have hA' := AT_Sc hs.1 hAb
  have gen := AG_e g hA0
  have eE : eA wb x n = eA w1 x n := by rw [gen.1]; rfl
  have hEb := hAb.2.2.2.1.2.1 n h1 h2
  have hch : whR r n ∈ chF (uS r 41 0) (foR r n) := by
    rw [chF_st]; exact chF_mem.mpr ⟨k1, k2, k3, hEn.2.2.2.1.2.1.symm⟩
  have e21' : wR w' 2 1 (eA w1 x n) = wA wb x (whR r n) := by rw [hs.1.2.1, ← eE]; exact hEb.1.2.2.1
  rw [e21', hs.1.1, ← eE]
  obtain ⟨c10, -, c0, -⟩ := ch_w hAb hch
  refine ⟨hEb.1.1, fun z => absurd hst z, fun _ => ⟨c0, c10, hA', ?_, ?_⟩⟩
  · rw [hbc]; exact (hR _ hch).1
  · rw [hbc]; exact (hR _ hch).2
theorem s_isRanked {X : Cx} {w0 : Wd} {m : Nat} (hS : Sh w0 m) (r : Rs) (hI : RI r) (n : Nat) (p : Int32) (h1 : 1 ≤ n) (h2 : n ≤ nE r) : CM X w0 m bX11_isRanked mX11_isRanked [vI (nI n), vI p] r (pI fun u r1 => (stF r n p ≠ 0 → u = 0 ∧ Pe (uS r 41 (stF r n p)) r1) ∧ (stF r n p = 0 → u = 1 ∧ Pe (uS r 41 0) r1 ∧ OrF r (ordS r (sS r 39) (sS r 39) p.toNatClampNeg (foR r n)).1 (ordS r (sS r 39) (sS r 39) p.toNatClampNeg (foR r n)).2 r1 ∧ liesB r (sS r 39) (sS r 39) n p.toNatClampNeg = true ∧ rI r 3 n ≠ 6)) := by
  have hc := hI.1
  have hf := hI.2.1
  have hE := hI.2.2.2.1
  have hN := hc.2.1.2
  have hEn := hE n h1 h2
  have hv : vp_in (nI n) 301 := inN (by omega) (by decide)
  have no : ∀ (r' : Rs) (F : Int32), Pe r r' → stF r n p = F → F ≠ 0 → CM X w0 m bX11_no mX11_no [vI F] r' (pI fun u r1 => (u = 0 ∨ u = 1) ∧ (stF r n p ≠ 0 → u = 0 ∧ Pe (uS r 41 (stF r n p)) r1) ∧ (stF r n p = 0 → u = 1 ∧ Pe (uS r 41 0) r1 ∧ OrF r (ordS r (sS r 39) (sS r 39) p.toNatClampNeg (foR r n)).1 (ordS r (sS r 39) (sS r 39) p.toNatClampNeg (foR r n)).2 r1 ∧ liesB r (sS r 39) (sS r 39) n p.toNatClampNeg = true ∧ rI r 3 n ≠ 6)) := by
    intro r' F h hF hF0
    refine (cm_no hS h F).I ?_
    rintro u r1 ⟨h01, rfl, hq⟩
    rw [hF]
    exact ⟨h01, fun _ => ⟨rfl, hq⟩, fun z => absurd z hF0⟩
  refine pX11_isRanked X w0 m hS _ _ p r ((s_isEntry hS r _).I ?_)
  rintro v r1 ⟨rfl, rfl⟩
  rw [ent_nI hc h1 h2, nI_clamp (show n < 2 ^ 31 by omega), hEn.1.1]
  refine ⟨fun _ => ⟨hv, (s_wrong hS r1 hc hf _ _).I ?_⟩, fun z => absurd z (by decide)⟩
  rintro v r2 ⟨rfl, rfl⟩
  by_cases hw : wrgF r2 (nI (foR r2 n)) p = 0
  · rw [hw]
    obtain ⟨a, b, ea, rfl, ha, hb, hs6, hac, hbc, -, -⟩ := wrg0 hc hf hw
    have hafo : a = foR r2 n := by
      have hF := hc.1.2
      have hfo := hEn.2.2.2.1.1
      exact ((nI_eq (by omega) (by omega)).mp ea).symm
    subst hafo
    rw [hbc]
    rw [hbc] at no
    refine ⟨fun _ => (s_now hS r2).V ?_, fun z => absurd (by decide) z⟩
    rintro r3 rfl
    have hV := now_viw r2
    have hI3 := RI_mv hV.1 hI
    rw [hV.1.2.2.1 3 rfl]
    refine ⟨hv, fun h6 => no _ 6 hV.1 ?_ (by decide), fun h6 => ?_⟩
    · unfold stF lieF; simp [hw, h6]
    have sl := s_lies (X := X) hS _ hI3.1 hI3.2.2.2.1 n b (by omega) h1 (by rw [hV.1.nn.2.1]; exact h2)
    rw [hV.2.1, hV.2.2, hV.1.lies] at sl
    refine sl.I ?_
    rintro v r4 ⟨rfl, rfl⟩
    refine ⟨fun hl => ⟨hv, ?_⟩, fun hl => no _ 6 hV.1 ?_ (by decide)⟩
    · rw [bI_n] at hl
      rw [hV.1.2.2.1 4 rfl, hEn.1.1]
      refine (s_orderOn hS hI (by omega) (by have := hc.1.2; have := hEn.2.2.2.1.1; omega) hV).V ?_
      rintro r5 ⟨hP, hO⟩
      rintro r6 rfl
      have hst : stF r2 n (nI b) = 0 := by unfold stF lieF; simp [hw, hbc, hl, h6]
      exact ⟨fun z => absurd hst z, fun _ => ⟨rfl, pe_cS hP.1.1 41 0, hO, hl, h6⟩⟩
    · rw [bI_0] at hl
      unfold stF lieF; simp [hw, hbc, hl]
  · refine ⟨fun z => absurd z (wrg_pos hw), fun _ => no _ _ (Pe.rf _) ?_ hw⟩
    unfold stF lieF; simp [hw]
section R1
variable (e p : Int32)
theorem sm_rank : SmI bX10_rank mX10_rank bX11_rank mX11_rank [vI e, vI p] := by
  intro X w x m r hA
  have hC := hA.2.2.1
  have hI := hA.2.2.2.2
  have hc := hI.1
  have hN := hc.2.1.2
  refine oX10_rank X _ x e p w ⟨hC.1.1, (c_entryAt w x r e hC hc).R ?_⟩
  rintro a w1 ⟨rfl, rfl⟩
  refine ⟨hC.1.1, ?_⟩
  cases he : entB r e
  · rw [if_neg (by decide)]
    refine oX10_standing X _ x 0 p w1 ⟨hC.1.1, oX10_lieFault X _ x 0 p w1 ⟨fun q => absurd rfl q, fun _ => ⟨fun _ => ?_, fun q => absurd q (by decide)⟩⟩⟩
    refine tX10_standing_33 X _ _ _ _ _ w1 ⟨hC.1.1, (c_settle w1 x 1 hC.1.1).I ?_⟩
    rintro v w2 ⟨rfl, rfl⟩
    refine ⟨fun _ => ⟨fun q => absurd rfl q, fun _ => ⟨_, AT_st 1 hA, ?_⟩⟩, fun q => absurd rfl q⟩
    have hS := (AT_st 1 hA).1.1
    refine pX11_rank X _ m hS _ e p r (pX11_isRanked X _ m hS _ e p r ((s_isEntry hS r e).I ?_))
    rintro v r1 ⟨rfl, rfl⟩
    rw [he]
    refine ⟨fun q => absurd rfl q, fun _ => (cm_no hS (Pe.rf _) 1).I ?_⟩
    rintro u r2 ⟨h01, rfl, hq⟩
    exact ⟨h01, fun _ => ⟨rfl, hq⟩, fun z => absurd rfl z⟩
  · rw [if_pos rfl]
    obtain ⟨n, rfl, h1, h2⟩ := ent_of hc he
    rw [nI_clamp (show n < 2 ^ 31 by omega)]
    have hEn := hI.2.2.2.1 n h1 h2
    refine (c_standing hA n p h1 h2).R ?_
    rintro a w2 ⟨p1, p2⟩
    by_cases hst : stF r n p = 0
    · obtain ⟨a0, k10, hT, e14, e15⟩ := p2 hst
      refine ⟨fun _ => ⟨k10, _, hT, ?_⟩, fun z => absurd z a0⟩
      refine pX11_rank X _ m hT.1.1 _ _ p r ((s_isRanked hT.1.1 r hI n p h1 h2).I ?_)
      rintro u r1 ⟨-, hu⟩
      obtain ⟨rfl, hp, hO, hl, h6⟩ := hu hst
      have hwn := hEn.2.1.2.1
      rw [nI_clamp (show n < 2 ^ 31 by omega), hp.2.2.1 5 rfl]
      have e5 : rI (uS r 41 0) 5 n = nI (whR r n) := hEn.1.2.1
      rw [e5]
      refine ⟨fun z => absurd z (by decide), fun _ => ⟨inN (by omega) (by decide), ?_⟩⟩
      obtain ⟨hin, hlen⟩ := (ordS_ok (r := r) (dy := sS r 39) (as := sS r 39) (p := p.toNatClampNeg) (f := foR r n) hI).in hI
      refine (s_standsAt hT.1.1 hO (by omega) (fun o ho => by have := hin o ho; omega) (whR r n) (by omega)).I ?_
      rintro v r2 ⟨rfl, rfl⟩
      exact ⟨e14.symm, hp⟩
    · obtain ⟨rfl, hT⟩ := p1 hst
      refine ⟨fun z => absurd rfl z, fun _ => ⟨_, hT, ?_⟩⟩
      refine pX11_rank X _ m hT.1.1 _ _ p r ((s_isRanked hT.1.1 r hI n p h1 h2).I ?_)
      rintro u r1 ⟨hu, -⟩
      obtain ⟨rfl, hp⟩ := hu hst
      exact ⟨fun _ => ⟨rfl, hp⟩, fun z => absurd rfl z⟩
theorem sm_why : SmI bX10_why mX10_why bX11_why mX11_why [vI e, vI p] := by
  intro X w x m r hA
  have hC := hA.2.2.1
  have hI := hA.2.2.2.2
  have hc := hI.1
  have hN := hc.2.1.2
  refine oX10_why X _ x e p w ⟨hC.1.1, (c_entryAt w x r e hC hc).R ?_⟩
  rintro a w1 ⟨rfl, rfl⟩
  refine ⟨hC.1.1, ?_⟩
  cases he : entB r e
  · rw [if_neg (by decide)]
    refine oX10_standing X _ x 0 p w1 ⟨hC.1.1, oX10_lieFault X _ x 0 p w1 ⟨fun q => absurd rfl q, fun _ => ⟨fun _ => ?_, fun q => absurd q (by decide)⟩⟩⟩
    refine tX10_standing_33 X _ _ _ _ _ w1 ⟨hC.1.1, (c_settle w1 x 1 hC.1.1).I ?_⟩
    rintro v w2 ⟨rfl, rfl⟩
    refine ⟨fun _ => ⟨fun q => absurd rfl q, fun _ => ⟨_, AT_st 1 hA, ?_⟩⟩, fun q => absurd rfl q⟩
    have hS := (AT_st 1 hA).1.1
    refine pX11_why X _ m hS _ e p r (pX11_isRanked X _ m hS _ e p r ((s_isEntry hS r e).I ?_))
    rintro v r1 ⟨rfl, rfl⟩
    rw [he]
    refine ⟨fun q => absurd rfl q, fun _ => (cm_no hS (Pe.rf _) 1).I ?_⟩
    rintro u r2 ⟨h01, rfl, hq⟩
    exact ⟨h01, fun _ => ⟨rfl, hq⟩, fun z => absurd rfl z⟩
  · rw [if_pos rfl]
    obtain ⟨n, rfl, h1, h2⟩ := ent_of hc he
    rw [nI_clamp (show n < 2 ^ 31 by omega)]
    have hEn := hI.2.2.2.1 n h1 h2
    refine (c_standing hA n p h1 h2).R ?_
    rintro a w2 ⟨p1, p2⟩
    by_cases hst : stF r n p = 0
    · obtain ⟨a0, k10, hT, e14, e15⟩ := p2 hst
      refine ⟨fun _ => ⟨k10, _, hT, ?_⟩, fun z => absurd z a0⟩
      refine pX11_why X _ m hT.1.1 _ _ p r ((s_isRanked hT.1.1 r hI n p h1 h2).I ?_)
      rintro u r1 ⟨-, hu⟩
      obtain ⟨rfl, hp, hO, hl, h6⟩ := hu hst
      have hwn := hEn.2.1.2.1
      rw [nI_clamp (show n < 2 ^ 31 by omega), hp.2.2.1 5 rfl]
      have e5 : rI (uS r 41 0) 5 n = nI (whR r n) := hEn.1.2.1
      rw [e5, nI_clamp (show whR r n < 2 ^ 31 by omega)]
      refine ⟨fun z => absurd z (by decide), fun _ => ⟨inN (by omega) (by decide), inN (by omega) (by decide), ?_, hp⟩⟩
      obtain ⟨k1, k2, k3⟩ := whole_of_r hI h1 h2
      have h6w : rI r 3 (whR r n) ≠ 6 := by rw [← hEn.2.2.2.1.2.2.1]; exact h6
      have hmem : whR r n ∈ OLs r (sS r 39) (sS r 39) p.toNatClampNeg (foR r n) := OLs_mem.mpr ⟨whR r n, chF_mem.mpr ⟨k1, k2, k3, hEn.2.2.2.1.2.1.symm⟩, by unfold plB; rw [if_neg h6w]; exact lies_up hI h1 h2 hl, by unfold own; rw [if_neg h6w]⟩
      rw [hO.2.2 _ (((ordS_ok hI).2 _).mpr hmem)]
      exact e15.symm
    · obtain ⟨rfl, hT⟩ := p1 hst
      refine ⟨fun z => absurd rfl z, fun _ => ⟨_, hT, ?_⟩⟩
      refine pX11_why X _ m hT.1.1 _ _ p r ((s_isRanked hT.1.1 r hI n p h1 h2).I ?_)
      rintro u r1 ⟨hu, -⟩
      obtain ⟨rfl, hp⟩ := hu hst
      exact ⟨fun _ => ⟨rfl, hp⟩, fun z => absurd rfl z⟩
end R1
