/-! ===== pay, owe ===== -/
theorem Pe.i {r r' : Rs} (h : Pe r r') (k : Nat) (hk : scI k = false) : ix r' k = ix r k := h.Sr.ixe k hk
theorem Pe.fi {r r' : Rs} (h : Pe r r') : fiR r' = fiR r := h.i 9 rfl
theorem Pe.pa {r r' : Rs} (h : Pe r r') : paR r' = paR r := h.i 6 rfl
theorem Pe.wh {r r' : Rs} (h : Pe r r') : whR r' = whR r := h.i 5 rfl
theorem Pe.fo {r r' : Rs} (h : Pe r r') : foR r' = foR r := h.i 4 rfl
theorem Pe.liv {r r' : Rs} (h : Pe r r') (d a : Int32) (e : Nat) : livB r' d a e = livB r d a e := by
  unfold livB; rw [h.i 5 rfl, h.2.2.1 13 rfl, h.2.2.1 14 rfl, h.2.2.1 15 rfl, h.2.2.1 16 rfl]
theorem offB_p {r : Rs} {d a : Int32} {p e : Nat} (hc : e ≠ 0 ∧ paR r e < e) : offB r d a p e = (if cntB d a (rI r 28 (60 * e + p)) (rI r 29 (60 * e + p)) then true else offB r d a p (paR r e)) := by rw [offB, dif_pos hc]
theorem offB_n {r : Rs} {d a : Int32} {p e : Nat} (hc : ¬ (e ≠ 0 ∧ paR r e < e)) : offB r d a p e = false := by rw [offB, dif_neg hc]
theorem Pe.off {r r' : Rs} (h : Pe r r') (d a : Int32) (p : Nat) : ∀ e, offB r' d a p e = offB r d a p e := by
  intro e
  induction e using Nat.strongRecOn with
  | ind e ih =>
    by_cases hc : e ≠ 0 ∧ paR r e < e
    · rw [offB_p hc, offB_p (r := r') (by rw [h.pa]; exact hc), h.pa, h.2.2.1 28 rfl, h.2.2.1 29 rfl, ih _ hc.2]
    · rw [offB_n hc, offB_n (r := r') (by rw [h.pa]; exact hc)]
theorem Pe.hlo {r r' : Rs} (h : Pe r r') (d a : Int32) (p e : Nat) : hloB r' d a p e = hloB r d a p e := by
  unfold hloB; rw [h.fi]; simp only [h.off]
theorem Pe.lies {r r' : Rs} (h : Pe r r') (d a : Int32) (e p : Nat) : liesB r' d a e p = liesB r d a e p := by
  unfold liesB; rw [h.liv, h.hlo, h.wh, h.fo, h.2.2.2 10 rfl, h.2.2.1 1 rfl]
theorem Pe.nn {r r' : Rs} (h : Pe r r') : nF r' = nF r ∧ nE r' = nE r ∧ nP r' = nP r := h.Sr.n
theorem Pe.dn {r r' : Rs} (h : Pe r r') : dnow r' = dnow r := by unfold dnow; rw [h.1 39 rfl, h.1 40 rfl]
theorem pe_now {r r' : Rs} (h : Pe r r') (a b : Int32) : Pe r (uS (uS r' 45 a) 46 b) := (h.uS 45 a rfl).uS 46 b rfl
theorem s_livesNow {X : Cx} {w0 : Wd} {m : Nat} (hS : Sh w0 m) (r : Rs) (hc : RIc r) (hE : RIE r) (e : Nat) (h1 : 1 ≤ e) (h2 : e ≤ nE r) : CM X w0 m bX11_livesNow mX11_livesNow [vI (nI e)] r (pI fun v r1 => v = bI (livB r (sS r 39) (sS r 39) e) ∧ r1 = uS (uS r 45 (sS r 39)) 46 (sS r 39)) := by
  have hN := hc.2.1.2
  have hI := hE e h1 h2
  refine pX11_livesNow X w0 m hS _ _ r ((s_now hS r).V ?_)
  rintro r1 rfl
  refine (s_lives hS (uS (uS r 45 (sS r 39)) 46 (sS r 39)) e (by omega) ⟨whR r e, by have := hI.2.1.2.1; omega, hI.1.2.1⟩).I ?_
  rintro v r2 ⟨rfl, rfl⟩
  exact ⟨bI_01 _, rfl, rfl⟩
/-- the whole of an entry lives now, by the class -/
theorem c_livesE {X : Cx} (w : Wd) (x : Nat) (r : Rs) (hz : wK w 0 = 0) (hC : CS w x r) (hE : RIE r) (hW : CW w x r) (e : Nat) (h1 : 1 ≤ e) (h2 : e ≤ nE r) : Ct X bX9_livesAt mX9_livesAt [vR (wA w x (whR r e)), vR (wR w 10 8 x)] w (qI fun v w' => v = bI (livB r (sS r 39) (sS r 39) e) ∧ w' = w) := by
  obtain ⟨k1, k2, k3⟩ := whole_of_e hE hW h1 h2
  have hk := hW _ k1 k2 k3
  have ha2 := hk.2.1.2.1
  have ha4 := hk.2.1.2.2
  refine (c_livesAt w _ _ hk.1.1 (Or.inr (ha2.2 hk.2.1.1).1) ?_ hC.1.2.2.2.2.2.2).I ?_
  · by_cases h : rI r 16 (whR r e) = -1
    · exact Or.inl (ha4.1 h)
    · exact Or.inr (ha4.2 h).1
  · rintro v w1 ⟨rfl, rfl⟩
    rw [ha2.B (fun hk => K_nz hz (ha2.2 hk).1), ha4.B (fun hk => K_nz hz (ha4.2 hk).1), hC.2.1.2.2.2.1, hC.2.1.2.2.2.2.1]
    exact ⟨rfl, rfl⟩
def payF (r : Rs) (n : Nat) (s : Int64) : Int32 := if rI r 3 n = 4 ∨ rI r 3 n = 6 then 4 else if s < 0 ∨ ¬ s ≤ sumF (rJ r 8) 0 (lvs (fiR r) n) then 5 else if livB r (sS r 39) (sS r 39) n = false then 6 else if fiR r n ≠ 0 then 8 else 0
theorem c_payFault {X : Cx} (w : Wd) (x : Nat) (r : Rs) (hz : wK w 0 = 0) (hC : CS w x r) (hI : RI r) (h4 : C4 w x r) (n : Nat) (s : Int64) (h1 : 1 ≤ n) (h2 : n ≤ nE r) : Ct X bX10_payFault mX10_payFault [vR x, vR (eA w x n), vJ s] w (qI fun v w' => v = payF r n s ∧ w' = w) := by
  obtain ⟨hc, hf, hb, hE, hp, hd⟩ := hI
  have hCe := h4.2.1 n h1 h2
  obtain ⟨k1, k2, k3⟩ := whole_of_e hE h4.2.2.1 h1 h2
  have hk := h4.2.2.1 _ k1 k2 k3
  have h0 := K_nz hz hCe.1.1
  have hkd : rI r 3 (whR r n) = rI r 3 n := ((hE n h1 h2).2.2.2.1.2.2.1).symm
  refine oX10_payFault X _ x _ s w ⟨fun _ => ?_, fun q => absurd q h0⟩
  rw [hCe.1.2.2.1]
  refine ⟨hCe.1.1, hk.1.1, hk.2.2.1.1, oX8_isDivisible X _ _ w ⟨hk.2.2.1.1, ?_⟩⟩
  rw [hk.2.2.1.2.1, hkd]
  refine ⟨fun q => ⟨fun h => absurd rfl h, fun _ => ⟨by simp [payF, q], rfl⟩⟩, fun q => ⟨fun q2 => ⟨fun h => absurd rfl h, fun _ => ⟨by simp [payF, q2], rfl⟩⟩, fun q2 => ⟨fun _ => ?_, fun h => absurd h (by decide)⟩⟩⟩
  rw [lg_lt]
  refine ⟨fun hs => ⟨by simp [payF, q, q2, hs], rfl⟩, fun hs => ⟨hCe.1.1, ?_⟩⟩
  rw [hCe.1.2.2.1]
  refine ⟨hk.1.1, (c_owedBelow w x r hz hc hE h4.2.1 h4.2.2.1 n h1 h2).J ?_⟩
  rintro v w1 ⟨rfl, rfl⟩
  rw [lg_le]
  refine ⟨fun hs2 => ⟨hCe.1.1, hC.1.1, ?_⟩, fun hs2 => ⟨by simp [payF, q, q2, hs2], rfl⟩⟩
  rw [hCe.1.2.2.1]
  refine ⟨hk.1.1, (c_livesE w1 x r hz hC hE h4.2.2.1 n h1 h2).I ?_⟩
  rintro v w2 ⟨rfl, rfl⟩
  refine ⟨fun hl => ⟨hCe.1.1, ?_⟩, fun hl => ?_⟩
  · rw [bI_n] at hl
    rw [hCe.2.1.2.2.1]
    refine ⟨fun hp => ?_, fun hp => ?_⟩
    · rw [bI_0] at hp
      have : fiR r n = 0 := by simpa using hp
      simp [payF, q, q2, hs, hs2, hl, this]
    · rw [bI_n] at hp
      have : fiR r n ≠ 0 := by simpa using hp
      simp [payF, q, q2, hs, hs2, hl, this]
  · rw [bI_0] at hl
    simp [payF, q, q2, hs, hs2, hl]
theorem m1J : ((-1 : Int32)).toInt64 = (-1 : Int64) := by decide
theorem s_payRef {X : Cx} {w0 : Wd} {m : Nat} (hS : Sh w0 m) (r : Rs) (hI : RI r) (n : Nat) (s : Int64) (h1 : 1 ≤ n) (h2 : n ≤ nE r) : CM X w0 m bX11_pay mX11_pay [vI (nI n), vJ s] r (pJ fun u r1 => (payF r n s ≠ 0 → u = -1 ∧ Pe (uS r 41 (payF r n s)) r1) ∧ (payF r n s = 0 → u = rJ r 8 n - s ∧ Pe (uJ (uS r 41 0) 8 n (rJ r 8 n - s)) r1)) := by
  obtain ⟨hc, hf, hb, hE, hp, hd⟩ := hI
  have hN := hc.2.1.2
  have hnc : (nI n).toNatClampNeg = n := nI_clamp (by omega)
  have hv : vp_in (nI n) 301 := inN (by omega) (by omega)
  have no : ∀ (r' : Rs) (f : Int32), Pe r r' → payF r n s = f → f ≠ 0 → CM X w0 m bX11_refuse mX11_refuse [vI f] r' (pI fun x7 r9 => (payF r n s ≠ 0 → x7.toInt64 = -1 ∧ Pe (uS r 41 (payF r n s)) r9) ∧ (payF r n s = 0 → x7.toInt64 = rJ r 8 n - s ∧ Pe (uJ (uS r 41 0) 8 n (rJ r 8 n - s)) r9)) := by
    intro r' f h hpf hf0
    refine (cm_ref hS h f).I ?_
    rintro u r1 ⟨rfl, hq⟩
    rw [hpf]
    exact ⟨fun _ => ⟨m1J, hq⟩, fun q => absurd q hf0⟩
  refine pX11_pay X w0 m hS _ _ s r ((s_isEntry hS r _).I ?_)
  rintro v r1 ⟨rfl, rfl⟩
  rw [ent_nI hc h1 h2, hnc]
  refine ⟨fun _ => ⟨hv, fun q => no r1 4 (Pe.rf _) (by simp [payF, q]) (by decide), fun q => ⟨hv, fun q2 => ?_, fun q2 => no r1 4 (Pe.rf _) (by simp [payF, q2]) (by decide)⟩⟩, fun q => absurd q (by decide)⟩
  rw [lg_lt]
  refine ⟨fun hs => no r1 5 (Pe.rf _) (by simp [payF, q, q2, hs]) (by decide), fun hs => (s_sumBelow hS r1 hc hE n h1 h2).J ?_⟩
  rintro v r2 ⟨rfl, rfl⟩
  rw [lg_le]
  have hP2 : Pe r1 (setL r1 n) := Pe.sL n
  refine ⟨fun hs2 => ?_, fun hs2 => no _ 5 hP2 (by simp [payF, q, q2, hs2]) (by decide)⟩
  have hI2 := RI4_mv hP2.Sr ⟨hc, hf, hb, hE, hp⟩
  refine (s_livesNow hS _ hI2.1 hI2.2.2.2.1 n h1 (by rw [hP2.nn.2.1]; exact h2)).I ?_
  rintro v r3 ⟨rfl, rfl⟩
  rw [hP2.liv, hP2.1 39 rfl]
  have hP3 : Pe r1 (uS (uS (setL r1 n) 45 (sS r1 39)) 46 (sS r1 39)) := pe_now hP2 _ _
  refine ⟨fun hl => ⟨hv, ?_⟩, fun hl => no _ 6 hP3 (by rw [bI_0] at hl; simp [payF, q, q2, hs, hs2, hl]) (by decide)⟩
  rw [bI_n] at hl
  rw [hP3.2.2.1 9 rfl, hP3.2.2.2 8 rfl, (hE n h1 h2).1.2.2.2.1]
  refine ⟨fun h9 => ?_, fun h9 => no _ 8 hP3 ?_ (by decide)⟩
  · have hfi : fiR r1 n = 0 := by
      rw [nI_z (by have := (hE n h1 h2).2.2.1.2.2; omega)] at h9
      exact h9
    have hpf : payF r1 n s = 0 := by simp [payF, q, q2, hs, hs2, hl, hfi]
    refine ⟨hv, hv, ?_⟩
    rintro r4 rfl r5 rfl
    refine ⟨hv, fun q => absurd hpf q, fun _ => ⟨by simp [R_uS, R_uJ], fun k hk => ?_, hP3.2.1, hP3.2.2.1, fun k hk => ?_⟩⟩
    · show (if k = 41 then 0 else sS _ k) = (if k = 41 then 0 else sS r1 k)
      by_cases h : k = 41
      · simp [h]
      · simp only [if_neg h]; exact hP3.1 k hk
    · funext i
      show (if k = 8 ∧ i = n then _ else rJ _ k i) = (if k = 8 ∧ i = n then _ else rJ r1 k i)
      by_cases h : k = 8 ∧ i = n
      · simp [h]
      · simp only [if_neg h]; exact congrFun (hP3.2.2.2 k hk) i
  · have : fiR r1 n ≠ 0 := fun z => h9 (by rw [z]; rfl)
    simp [payF, q, q2, hs, hs2, hl, this]
theorem RIx_pay {r : Rs} {n : Nat} {s : Int64} (hI : RI r) (h1 : 1 ≤ n) (h2 : n ≤ nE r) (hz : payF r n s = 0) : RIx (uJ r 8 n (rJ r 8 n - s)) := by
  have hx := hI.2.2.1.2.2.2.2.2 n h1 h2
  have f : fiR r n = 0 ∧ rI r 3 n ≠ 4 ∧ (0 : Int64) ≤ s ∧ s ≤ sumF (rJ r 8) 0 (lvs (fiR r) n) := by
    unfold payF at hz
    refine ⟨?_, ?_, ?_, ?_⟩
    · apply Classical.byContradiction; intro z; revert hz; simp [z]; grind
    · intro z; revert hz; simp [z]
    · apply Classical.byContradiction; intro z
      have : s < 0 := by rw [Int64.le_iff_toInt_le] at z; rw [Int64.lt_iff_toInt_lt]; omega
      revert hz; simp [this]; split <;> decide
    · apply Classical.byContradiction; intro z; revert hz; simp [z]; split <;> decide
  obtain ⟨f1, f2, f3, f4⟩ := f
  rw [lvs_leaf (HT_of hI.1 hI.2.2.2.1) f1] at f4
  have f5 : s ≤ rJ r 8 n := by
    have : sumF (rJ r 8) 0 [n] = 0 + rJ r 8 n := rfl
    rw [this, Int64.zero_add] at f4; exact f4
  have e := Int64_sub (a := rJ r 8 n) f3 f5
  refine RIx_8 hI h1 h2 f1 _ (by rw [Int64.le_iff_toInt_le, e]; rw [Int64.le_iff_toInt_le] at f5; show (0 : Int) ≤ _; omega) (fun z => absurd z f2) (fun z => ?_)
  rw [e]
  have := lsum_wh hI h1 h2 f2
  rw [Int64.le_iff_toInt_le] at f3
  have f3' : (0 : Int) ≤ s.toInt := f3
  omega
theorem sm_pay (e : Int32) (s : Int64) : SmJ bX10_pay mX10_pay bX11_pay mX11_pay [vI e, vJ s] := by
  intro X w x m r hA
  have hC := hA.2.2.1
  have hc := hA.2.2.2.2.1
  have h4 := hA.2.2.2.1
  refine oX10_pay X _ x e s w ⟨hC.1.1, (c_entryAt w x r e hC hc).R ?_⟩
  rintro a w1 ⟨rfl, rfl⟩
  cases he : entB r e
  · rw [if_neg (by decide)]
    refine ⟨hC.1.1, oX10_payFault X _ x 0 s w1 ⟨fun q => absurd rfl q, fun _ => ⟨hC.1.1, (c_settle w1 x 1 hC.1.1).I ?_⟩⟩⟩
    rintro v w2 ⟨rfl, rfl⟩
    refine ⟨fun _ => ⟨_, AT_st 1 hA, ?_⟩, fun q => absurd rfl q⟩
    have hS := (AT_st 1 hA).1.1
    refine pX11_pay X _ m hS _ e s r ((s_isEntry hS r e).I ?_)
    rintro v r1 ⟨rfl, rfl⟩
    rw [he]
    refine ⟨fun q => absurd rfl q, fun _ => (cm_ref hS (Pe.rf _) 1).I ?_⟩
    rintro u r2 ⟨rfl, hq⟩
    exact ⟨m1J, hq⟩
  · rw [if_pos rfl]
    obtain ⟨n, rfl, h1, h2⟩ := ent_of hc he
    have hN := hc.2.1.2
    have hnc : (nI n).toNatClampNeg = n := nI_clamp (by omega)
    rw [hnc]
    have hCe := h4.2.1 n h1 h2
    have h0 := K_nz hA.2.1.1 hCe.1.1
    refine ⟨hC.1.1, (c_payFault w1 x r hA.2.1.1 hC hA.2.2.2.2 h4 n s h1 h2).I ?_⟩
    rintro v w2 ⟨rfl, rfl⟩
    refine ⟨hC.1.1, (c_settle w2 x _ hC.1.1).I ?_⟩
    rintro v w3 ⟨rfl, rfl⟩
    refine ⟨fun hq => ?_, fun hq => ⟨fun _ => ⟨hCe.1.1, ?_⟩, fun q => absurd q h0⟩⟩
    · rw [bI_0] at hq
      have hne : payF r n s ≠ 0 := by simpa using hq
      refine ⟨_, AT_st (payF r n s) hA, (s_payRef (AT_st (payF r n s) hA).1.1 r hA.2.2.2.2 n s h1 h2).J ?_⟩
      rintro u r1 ⟨hu, -⟩
      exact hu hne
    · rw [bI_n] at hq
      have hz : payF r n s = 0 := by simpa using hq
      rw [hz]
      rintro w4 rfl
      have hJ4 : wJ (sI w2 10 13 x 0) 2 4 (eA w2 x n) = rJ r 8 n := hCe.2.1.2.1
      rw [hJ4]
      have hT := AT_uJ (r' := uS r 41 0) (Or.inl ⟨rfl, rfl⟩) h1 h2 (rJ r 8 n - s) (AT_st 0 hA) (RIx_pay hA.2.2.2.2 h1 h2 hz)
      refine ⟨_, hT, (s_payRef hT.1.1 r hA.2.2.2.2 n s h1 h2).J ?_⟩
      rintro u r1 ⟨-, hu⟩
      obtain ⟨rfl, hp⟩ := hu hz
      refine ⟨?_, hp⟩
      show _ = (if 2 = 2 ∧ 4 = 4 ∧ eA w2 x n = eA w2 x n then rJ r 8 n - s else _)
      simp
