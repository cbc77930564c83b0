/-! ===== many, list ===== -/
theorem sr_off {r r' : Rs} (h : Sr r r') (d a : Int32) (p : Nat) : ∀ e, offB r' d a p e = offB r d a p e := by
  have hpa : paR r' = paR r := by unfold paR; rw [h.ixe 6 rfl]
  intro e
  induction e using Nat.strongRecOn with
  | ind e ih =>
    by_cases hc : e ≠ 0 ∧ paR r e < e
    · rw [offB_p hc, offB_p (r := r') (by rw [hpa]; exact hc), hpa, h.1 28 rfl, h.1 29 rfl, ih _ hc.2]
    · rw [offB_n hc, offB_n (r := r') (by rw [hpa]; exact hc)]
theorem sr_lies {r r' : Rs} (h : Sr r r') (d a : Int32) (e p : Nat) : liesB r' d a e p = liesB r d a e p := by
  have hwh : whR r' = whR r := by unfold whR; rw [h.ixe 5 rfl]
  have hfo : foR r' = foR r := by unfold foR; rw [h.ixe 4 rfl]
  have hfi : fiR r' = fiR r := by unfold fiR; rw [h.ixe 9 rfl]
  unfold liesB livB hloB
  simp only [sr_off h, hwh, hfo, hfi, h.2.1 10 rfl, h.1 1 rfl, h.ixe 5 rfl, h.1 13 rfl, h.1 14 rfl, h.1 15 rfl, h.1 16 rfl]
theorem sr_ord {r r' : Rs} (h : Sr r r') (dy as : Int32) (p f : Nat) : ordS r' dy as p f = ordS r dy as p f := by
  have hfs : fstB r' dy as = fstB r dy as := by funext w; unfold fstB; rw [h.1 3 rfl, h.1 22 rfl, h.1 23 rfl, h.1 20 rfl]
  have hpl : plB r' dy as p = plB r dy as p := by funext w; unfold plB; rw [h.1 3 rfl, sr_lies h, h.ixe 24 rfl, h.1 26 rfl, h.1 27 rfl, sr_lies h]
  have hown : own r' = own r := by funext w; unfold own; rw [h.1 3 rfl, h.ixe 24 rfl]
  have hadd : addO r' = addO r := by funext O w; unfold addO; rw [hown]
  have hfo : foR r' = foR r := by unfold foR; rw [h.ixe 4 rfl]
  have hwh : whR r' = whR r := by unfold whR; rw [h.ixe 5 rfl]
  have hgA : gA r' = gA r := by funext q; unfold gA; rw [hwh, h.ixe 31 rfl]
  have hgB : gB r' = gB r := by funext q; unfold gB; rw [hwh, h.ixe 32 rfl]
  have hcn : cntP r' dy as p f = cntP r dy as p f := by funext q; unfold cntP; rw [hfo, h.ixe 31 rfl, h.ixe 32 rfl, h.1 34 rfl, h.1 35 rfl, h.1 36 rfl, h.1 37 rfl, sr_lies h, sr_lies h]
  have hps : pstp r' dy as p f = pstp r dy as p f := by funext s q; unfold pstp; rw [hcn, hgA, hgB]
  have hpo : pos r' = pos r := by unfold pos; rw [h.n.2.2]
  have hPL : PLs r' dy as p f = PLs r dy as p f := by unfold PLs; rw [h.ch, hpl, hfs]
  unfold ordS OLs
  rw [hps, hpo, hPL, hadd]
theorem ordS_st (r : Rs) (v : Int32) (dy as : Int32) (p f : Nat) : ordS (uS r 41 v) dy as p f = ordS r dy as p f := sr_ord (Sr.uS 41 v (by decide) (by decide) (by decide)) dy as p f
theorem chF_st (r : Rs) (v : Int32) (f : Nat) : chF (uS r 41 v) f = chF r f := (Sr.uS 41 v (by decide) (by decide) (by decide)).ch f
theorem pe_st2 (r : Rs) (a b : Int32) : Pe (uS (uS r 41 a) 41 b) (uS r 41 b) := ⟨fun k _ => by
  rw [(R_uS r 41 b).2.2.2, (R_uS (uS r 41 a) 41 b).2.2.2, (R_uS r 41 a).2.2.2]
  by_cases h : k = 41
  · simp [h]
  · simp [h], rfl, fun _ _ => rfl, fun _ _ => rfl⟩
section O10
variable {X : Cx} {W0 : Wd} {x m q mo : Nat} {r0 r : Rs} {dy as : Int32} {p f : Nat}
theorem c_rankArr (hA : AT W0 x m r0 r) (hq0 : wK W0 q = 0) (hq1 : q ≠ 0) (hp : p < 60) (hf : f < nF r) (hsz : p < ix r 0 f) (hmo : wK W0 mo = 5) (hd : wI W0 4 0 mo = dy) (ha : wI W0 4 1 mo = as) (B : Wd → Prop) (h : ∀ w1 w', AT w1 x m r0 r → Ag W0 w1 → RQ w1 x dy as p f q mo → Sq q w1 w' → LiF r dy as p w1 x (chF r f) w' → RkS w1 x (chF r f) w' (ordS r dy as p f).1 (ordS r dy as p f).2 → wI w' 6 4 q = nI (ordS r dy as p f).1.length → B w') : Ct X bX6_init mX6_init [vR q, vR (fA W0 x f), vI (nI p), vR mo, vR (wR W0 10 6 x)] (nO W0 6 q) (qV fun w14 => wK w14 q = 7 ∧ Ct X bX6_arrange mX6_arrange [vR q] w14 (qV B)) := by
  refine oX6_init X _ q _ _ _ _ _ ⟨by rw [nO_new]; decide, nO_new, ?_⟩
  rintro w3 rfl w5 rfl w7 rfl w9 hw9
  have g : Ag W0 w9 := by rw [hw9]; exact ((((Ag.nO (w := W0) 6 q hq0).sR 6 0 q _ hq0).sI 6 1 q _ hq0).sR 6 2 q _ hq0).sR 6 3 q _ hq0
  have z9 : wK w9 0 = 0 := by
    rw [hw9]; show wK (nO W0 6 q) 0 = 0; rw [nO_z hq1]; exact hA.2.1.1
  have hA9 := AG_all g z9 hA
  have ge := AG_e g hA
  have k9 : wK w9 q = 7 := by rw [hw9]; exact nO_new
  have gx := g x (kz hA.2.2.1.1.1)
  have gm := g mo (kz hmo)
  have hRQ : RQ w9 x dy as p f q mo := by
    refine ⟨⟨k9, ?_, ?_, ?_, ?_⟩, gm.1.trans hmo, (gm.2.2.1 4 0).trans hd, (gm.2.2.1 4 1).trans ha⟩
    · rw [ge.2.1, hw9]; simp [S_sR, S_sI]
    · rw [hw9]; simp [S_sR, S_sI]
    · rw [hw9]; simp [S_sR, S_sI]
    · rw [gx.2.2.2.2.1 10 6, hw9]; simp [S_sR, S_sI]
  have h64 : wI w9 6 4 q = 0 := by rw [hw9]; simp [S_sR, S_sI, nO_I]
  obtain ⟨pl, hCP⟩ := hA9.2.2.2.1.2.2.2.1
  exact ⟨k9, c_arrange hA9 (PF_of hCP) hp hf hsz hRQ h64 B (fun w' a b c d => h w9 w' hA9 g hRQ a b c d)⟩
theorem find_ord (hI : RI r) {O : List Nat} (hO : OkO r dy as p f O) (i : Int32) : (chF r f).find? (fun y => decide (idx O y ≠ -1 ∧ idx O y = i)) = if ¬ i < 0 ∧ i < nI O.length then some (O.getD i.toNatClampNeg 0) else none := by
  have hN := hI.1.2.1.2
  obtain ⟨hin, hl⟩ := hO.in hI
  by_cases h : ¬ i < 0 ∧ i < nI O.length
  · rw [if_pos h]
    obtain ⟨j, hj, rfl⟩ := nI_of h.1
    have hjl : j < O.length := (nI_ltI hj (by omega)).mp h.2
    rw [nI_clamp hj]
    have hmem : O.getD j 0 ∈ O := by simp [List.getD, hjl]
    have hidx : idx O (O.getD j 0) = nI j := by unfold idx; rw [idxR_at O 0 j hO.1 hjl, Nat.zero_add]
    have hch := (OLs_ch hI ((hO.2 _).mp hmem)).1
    cases hx : (chF r f).find? (fun y => decide (idx O y ≠ -1 ∧ idx O y = nI j)) with
    | none =>
      have := List.find?_eq_none.mp hx _ hch
      rw [decide_eq_true_eq] at this
      exact absurd ⟨by rw [hidx]; exact nI_m1 hj, hidx⟩ this
    | some y =>
      have a := List.find?_some hx
      rw [decide_eq_true_eq] at a
      have hm : y ∈ O := Classical.byContradiction fun z => a.1 (idxR_no O 0 z)
      obtain ⟨i, i1, i2, i3⟩ := idxR_in O 0 hm
      have e : idx O y = nI i := by unfold idx; rw [i2, Nat.zero_add]
      rw [e] at a
      have := (nI_eq (by omega) hj).mp a.2
      rw [← i3, this]
  · rw [if_neg h]
    rw [List.find?_eq_none]
    intro y hy
    rw [decide_eq_true_eq]
    rintro ⟨h1, h2⟩
    apply h
    have hm : y ∈ O := Classical.byContradiction fun z => h1 (idxR_no O 0 z)
    obtain ⟨j, j1, j2, -⟩ := idxR_in O 0 hm
    rw [← h2]
    unfold idx
    rw [j2, Nat.zero_add]
    refine ⟨fun z => ?_, nI_lt j1 (by omega)⟩
    have := (nI_ltI (a := j) (b := 0) (by omega) (by omega)).mp z
    omega
end O10
theorem c_nth {X : Cx} {W : Wd} {x m mo : Nat} {r0 r : Rs} {dy as : Int32} {a b : Nat} (hA : AT W x m r0 r) (ha : a < nF r) (hb : b < ix r 0 a) (hw : wrgF r (nI a) (nI b) = 0) (hmo : wK W mo = 5) (hd : wI W 4 0 mo = dy) (has : wI W 4 1 mo = as) (i : Int32) : Ct X bX10_nth mX10_nth [vR x, vR (fA W x a), vI (nI b), vR mo, vI i] W (qI fun v w' => (¬ i < 0 ∧ i < nI (ordS r dy as b a).1.length → v = nI ((ordS r dy as b a).1.getD i.toNatClampNeg 0) ∧ AT w' x m r0 (uS (uS r 41 0) 41 0)) ∧ (¬ (¬ i < 0 ∧ i < nI (ordS r dy as b a).1.length) → v = -1 ∧ AT w' x m r0 (uS (uS r 41 0) 41 5))) := by
  have hC := hA.2.2.1
  have hI := hA.2.2.2.2
  have hz := hA.2.1.1
  have h60 := (hI.2.1 a ha).2.2
  have hN := hI.1.2.1.2
  have hF := hA.2.2.2.1.1 a ha
  have h0F := K_nz hz hF.1
  have hF40 := hI.1.1.2
  have hO := ordS_ok (r := r) (dy := dy) (as := as) (p := b) (f := a) hI
  obtain ⟨hin, hlen⟩ := hO.in hI
  have hpf := c_parcelFault (X := X) W x r hz hI.1 hI.2.1 hA.2.2.2.1.1 (nI a) (nI b)
  obtain ⟨a', b', ea, eb, -, -, -, -, -, h0, -⟩ := wrg0 hI.1 hI.2.1 hw
  rw [← ea] at h0
  rw [if_neg h0, nI_clamp (show a < 2 ^ 31 by omega)] at hpf
  refine oX10_nth X _ x _ _ mo i W (hpf.I ?_)
  rintro v w1 ⟨rfl, rfl⟩
  rw [hw]
  refine ⟨hC.1.1, (c_settle w1 x 0 hC.1.1).I ?_⟩
  rintro v w2 ⟨rfl, rfl⟩
  refine ⟨fun q => absurd q (by decide), fun _ => ⟨fun _ => ?_, fun q => absurd q h0F⟩⟩
  have hA0 := AT_st 0 hA
  rintro q hq0 hq1 w9 rfl
  have gq : Ag (sI w1 10 13 x 0) (nO (sI w1 10 13 x 0) 6 q) := Ag.nO 6 q hq0
  have gx := gq x (kz hA0.2.2.1.1.1)
  rw [gx.2.2.2.2.1 10 6]
  refine ⟨gx.1.trans hA0.2.2.1.1.1, ?_⟩
  have hfa : fA w1 x a = fA (sI w1 10 13 x 0) x a := rfl
  have hsz : b < ix (uS r 41 0) 0 a := hb
  rw [hfa]
  refine c_rankArr (r := uS r 41 0) (dy := dy) (as := as) hA0 hq0 hq1 (by omega) ha hsz (mo := mo) hmo hd has _ (fun wb w' hAb g hRQ hs hL hR h64 => ?_)
  rw [ordS_st] at hR h64
  have hA' := AT_Sc hs.1 hAb
  refine ⟨by rw [hs.1.1]; exact hRQ.1.1, (c_wholeAt hAb ha hRQ hs hR i).R ?_⟩
  rintro v w16 ⟨rfl, rfl⟩
  have hx' : wK w16 x = 11 := hA'.2.2.1.1.1
  have hfo := find_ord hI hO i
  rw [chF_st]
  by_cases hi : ¬ i < 0 ∧ i < nI (ordS r dy as b a).1.length
  · rw [if_pos hi] at hfo
    rw [hfo]
    obtain ⟨j, hj, rfl⟩ := nI_of hi.1
    have hjl : j < (ordS r dy as b a).1.length := (nI_ltI hj (by omega)).mp hi.2
    have hmem : (ordS r dy as b a).1.getD j 0 ∈ (ordS r dy as b a).1 := by simp [List.getD, hjl]
    rw [nI_clamp hj]
    have hch := (OLs_ch hI ((hO.2 _).mp hmem)).1
    have hchb : (ordS r dy as b a).1.getD j 0 ∈ chF (uS r 41 0) a := by rw [chF_st]; exact hch
    obtain ⟨k10, k98, k0, y1, y2, -, -⟩ := ch_w hAb hchb
    have hEy := hAb.2.2.2.1.2.1 _ y1 y2
    refine ⟨fun _ => ⟨hx', (c_settle w16 x 0 hx').I ?_⟩, fun z => absurd z k0⟩
    rintro v w20 ⟨rfl, rfl⟩
    refine ⟨fun z => absurd z (by decide), fun _ => ⟨fun _ => ⟨by show wK w16 _ = 10; rw [hs.1.1]; exact k10, ?_⟩, fun z => absurd z k0⟩⟩
    have e98 : wR (sI w16 10 13 x 0) 9 8 (wA wb x ((ordS r dy as b a).1.getD j 0)) = eA wb x ((ordS r dy as b a).1.getD j 0) := by show wR w16 9 8 _ = _; rw [hs.1.2.1]; exact k98
    refine (c_number (sI w16 10 13 x 0) _ (by show wK w16 _ = 10; rw [hs.1.1]; exact k10) (by rw [e98]; show wK w16 _ = 3; rw [hs.1.1]; exact hEy.1.1) (by rw [e98]; exact K_nz hAb.2.1.1 hEy.1.1)).I ?_
    rintro v w25 ⟨rfl, rfl⟩
    refine ⟨fun _ => ⟨?_, AT_st 0 hA'⟩, fun z => absurd hi z⟩
    rw [e98]
    show wI w16 2 0 _ = _
    rw [hs.1.2.2.2.2.2.2.1 2 0 (by omega) (by decide)]
    exact hEy.1.2.1
  · rw [if_neg hi] at hfo
    rw [hfo]
    refine ⟨fun z => absurd rfl z, fun _ => ⟨hx', (c_settle w16 x 5 hx').I ?_⟩⟩
    rintro v w20 ⟨rfl, rfl⟩
    exact ⟨fun _ => ⟨fun z => absurd z hi, fun _ => ⟨rfl, AT_st 5 hA'⟩⟩, fun z => absurd rfl z⟩
theorem now_viw (r : Rs) : Viw r (sS r 39) (sS r 39) (uS (uS r 45 (sS r 39)) 46 (sS r 39)) := ⟨pe_now (Pe.rf _) _ _, rfl, rfl⟩
theorem sm_many (f p : Int32) : SmI bX10_many mX10_many bX11_many mX11_many [vI f, vI p] := by
  intro X w x m r hA
  have hC := hA.2.2.1
  have hI := hA.2.2.2.2
  have hc := hI.1
  have hf := hI.2.1
  have h4 := hA.2.2.2.1
  refine oX10_many X _ x f p w ⟨hC.1.1, (c_folioAt w x r f hC hc).R ?_⟩
  rintro a w1 ⟨rfl, rfl⟩
  refine (c_parcelFault w1 x r hA.2.1.1 hc hf h4.1 f p).I ?_
  rintro v w2 ⟨rfl, rfl⟩
  refine ⟨hC.1.1, (c_settle w2 x _ hC.1.1).I ?_⟩
  rintro v w3 ⟨rfl, rfl⟩
  refine ⟨fun hq => ?_, fun hq => ?_⟩
  · rw [bI_0] at hq
    have hne : wrgF r f p ≠ 0 := by simpa using hq
    have hT := AT_st (wrgF r f p) hA
    refine ⟨_, hT, pX11_many X _ m hT.1.1 _ f p r ((s_wrong hT.1.1 r hc hf f p).I ?_)⟩
    rintro v r1 ⟨rfl, rfl⟩
    exact ⟨fun q => absurd q (wrg_pos hne), fun _ => cm_ref hT.1.1 (Pe.rf _) _⟩
  · rw [bI_n] at hq
    have hz : wrgF r f p = 0 := by simpa using hq
    rw [hz]
    obtain ⟨a, b, rfl, rfl, ha, hb, hs6, hac, hbc, h0, ht⟩ := wrg0 hc hf hz
    rw [if_neg h0, hac]
    refine ⟨fun _ => ?_, fun q => absurd q (K_nz hA.2.1.1 (h4.1 a ha).1)⟩
    have hA0 := AT_st 0 hA
    rintro q hq0 hq1 w9 rfl
    have gq : Ag (sI w2 10 13 x 0) (nO (sI w2 10 13 x 0) 6 q) := Ag.nO 6 q hq0
    have gx := gq x (kz hA0.2.2.1.1.1)
    rw [gx.2.2.2.2.1 10 6, gx.2.2.2.2.1 10 8]
    refine ⟨gx.1.trans hA0.2.2.1.1.1, ?_⟩
    have hfa : fA w2 x a = fA (sI w2 10 13 x 0) x a := rfl
    rw [hfa]
    refine c_rankArr (r := uS r 41 0) (dy := sS r 39) (as := sS r 39) hA0 hq0 hq1 (by omega) ha hb (mo := wR (sI w2 10 13 x 0) 10 8 x) hA0.2.2.1.1.2.2.2.2.2.2 hA0.2.2.1.2.1.2.2.2.1 hA0.2.2.1.2.1.2.2.2.2.1 _ (fun wb w' hAb g hRQ hs hL hR h64 => ?_)
    rw [ordS_st] at h64
    have hA' := AT_Sc hs.1 hAb
    refine ⟨by rw [hs.1.1]; exact hRQ.1.1, _, hA', pX11_many X _ m hA'.1.1 _ _ _ r ((s_wrong hA'.1.1 r hc hf _ _).I ?_)⟩
    rintro v r1 ⟨rfl, rfl⟩
    rw [hz, h64]
    refine ⟨fun _ => (s_now hA'.1.1 r1).V ?_, fun z => absurd (by decide) z⟩
    rintro r2 rfl
    refine (s_orderOn hA'.1.1 hI (by omega) (by have := hc.1.2; omega) (now_viw r1)).V ?_
    rintro r3 ⟨hP, hO⟩
    rintro r4 rfl
    exact ⟨hO.1, pe_cS hP.1.1 41 0⟩
theorem sm_list (f p i : Int32) : SmI bX10_list mX10_list bX11_list mX11_list [vI f, vI p, vI i] := by
  intro X w x m r hA
  have hC := hA.2.2.1
  have hI := hA.2.2.2.2
  have hc := hI.1
  have hf := hI.2.1
  have h4 := hA.2.2.2.1
  have hN := hc.2.1.2
  refine oX10_list X _ x f p i w ⟨hC.1.1, (c_folioAt w x r f hC hc).R ?_⟩
  rintro a w1 ⟨rfl, rfl⟩
  refine ⟨hC.1.1, ?_⟩
  by_cases hz : wrgF r f p = 0
  · obtain ⟨a, b, rfl, rfl, ha, hb, hs6, hac, hbc, h0, ht⟩ := wrg0 hc hf hz
    rw [if_neg h0, hac]
    refine (c_nth (dy := sS r 39) (as := sS r 39) hA ha hb hz hC.1.2.2.2.2.2.2 hC.2.1.2.2.2.1 hC.2.1.2.2.2.2.1 i).I ?_
    rintro v w' ⟨p1, p2⟩
    have hO := ordS_ok (r := r) (dy := sS r 39) (as := sS r 39) (p := b) (f := a) hI
    obtain ⟨hin, hlen⟩ := hO.in hI
    have ref : ∀ W : Wd, Sh W m → CM X W m bX11_list mX11_list [vI (nI a), vI (nI b), vI i] r (pI fun u r1 => ((¬ i < 0 ∧ i < nI (ordS r (sS r 39) (sS r 39) b a).1.length) → u = nI ((ordS r (sS r 39) (sS r 39) b a).1.getD i.toNatClampNeg 0) ∧ Pe (uS r 41 0) r1) ∧ (¬ (¬ i < 0 ∧ i < nI (ordS r (sS r 39) (sS r 39) b a).1.length) → u = -1 ∧ Pe (uS r 41 5) r1)) := by
      intro W hS
      refine pX11_list X _ m hS _ _ _ i r ((s_wrong hS r hc hf _ _).I ?_)
      rintro v r1 ⟨rfl, rfl⟩
      rw [hz]
      refine ⟨fun _ => (s_now hS r1).V ?_, fun z => absurd (by decide) z⟩
      rintro r2 rfl
      refine (s_orderOn hS hI (by omega) (by have := hc.1.2; omega) (now_viw r1)).V ?_
      rintro r3 ⟨hP, hOr⟩
      rw [hOr.1]
      have no : ¬ (¬ i < 0 ∧ i < nI (ordS r1 (sS r1 39) (sS r1 39) b a).1.length) → CM X W m bX11_refuse mX11_refuse [vI 5] r3 (pI fun u r1' => ((¬ i < 0 ∧ i < nI (ordS r1 (sS r1 39) (sS r1 39) b a).1.length) → u = nI ((ordS r1 (sS r1 39) (sS r1 39) b a).1.getD i.toNatClampNeg 0) ∧ Pe (uS r1 41 0) r1') ∧ (¬ (¬ i < 0 ∧ i < nI (ordS r1 (sS r1 39) (sS r1 39) b a).1.length) → u = -1 ∧ Pe (uS r1 41 5) r1')) := fun hn => by
        refine (cm_ref hS hP.1.1 5).I ?_
        rintro u r4 ⟨rfl, hq⟩
        exact ⟨fun z => absurd z hn, fun _ => ⟨rfl, hq⟩⟩
      refine ⟨fun z => no (fun q => q.1 z), fun z => ⟨fun z2 => ?_, fun z2 => no (fun q => z2 q.2)⟩⟩
      rintro r4 rfl
      obtain ⟨j, hj, rfl⟩ := nI_of z
      have hjl : j < (ordS r1 (sS r1 39) (sS r1 39) b a).1.length := (nI_ltI hj (by omega)).mp z2
      rw [nI_clamp hj]
      refine ⟨inN (by omega) (by decide), fun _ => ⟨?_, pe_cS hP.1.1 41 0⟩, fun q => absurd ⟨z, z2⟩ q⟩
      exact hOr.2.1 j hjl
    by_cases hi : ¬ i < 0 ∧ i < nI (ordS r (sS r 39) (sS r 39) b a).1.length
    · obtain ⟨rfl, hT⟩ := p1 hi
      refine ⟨_, hT, (ref _ hT.1.1).I ?_⟩
      rintro u r1 ⟨hu, -⟩
      obtain ⟨rfl, hp⟩ := hu hi
      exact ⟨rfl, (pe_st2 r 0 0).tr hp⟩
    · obtain ⟨rfl, hT⟩ := p2 hi
      refine ⟨_, hT, (ref _ hT.1.1).I ?_⟩
      rintro u r1 ⟨-, hu⟩
      obtain ⟨rfl, hp⟩ := hu hi
      exact ⟨rfl, (pe_st2 r 0 5).tr hp⟩
  · refine oX10_nth X _ x _ _ _ i w1 ((c_parcelFault w1 x r hA.2.1.1 hc hf h4.1 f p).I ?_)
    rintro v w2 ⟨rfl, rfl⟩
    refine ⟨hC.1.1, (c_settle w2 x _ hC.1.1).I ?_⟩
    rintro v w3 ⟨rfl, rfl⟩
    have hT := AT_st (wrgF r f p) hA
    refine ⟨fun _ => ⟨_, hT, pX11_list X _ m hT.1.1 _ f p i r ((s_wrong hT.1.1 r hc hf f p).I ?_)⟩, fun q => absurd (by rw [bI_0]; simpa using hz) q⟩
    rintro v r1 ⟨rfl, rfl⟩
    exact ⟨fun q => absurd q (wrg_pos hz), fun _ => cm_ref hT.1.1 (Pe.rf _) _⟩
