/-! ===== sell: both sides ===== -/
section W1
variable {r : Rs} {p f : Nat}
theorem HB_pay (hI : RI r) {left : Int64} (l0 : 0 ≤ left.toInt) (l1 : left.toInt ≤ 999999999999) : HB r p f (payA r p f left).1 := by
  have key : ∀ (T : List Nat) (s : (Nat → Int64) × Int64), (∀ w ∈ T, w ∈ PLs r (sS r 39) (sS r 39) p f) → HB r p f s.1 → 0 ≤ s.2.toInt → s.2.toInt ≤ 999999999999 → HB r p f (T.foldl (payS r (dS r p f)) s).1 := by
    intro T
    induction T with
    | nil => intro s _ hB _ _; exact hB
    | cons w T ih =>
      intro s hT hB a b
      have hwm' := PLs_mem.mp (hT w List.mem_cons_self)
      have hv := pl_vW hI hwm'.1 hwm'.2
      have hko : inR r p f (own r w) := ((ordS_ok hI).2 _).mpr (OLs_mem.mpr ⟨w, hwm'.1, hwm'.2, rfl⟩)
      obtain ⟨q1, q2, q3, q4, q5⟩ := pay_eq hI hB a b hv hko
      rw [List.foldl_cons]
      exact ih _ (fun z hz => hT z (List.mem_cons_of_mem _ hz)) q3 q4 q5
  exact key _ _ (fun _ z => z) (HB_0 hI) l0 l1
theorem HB_has (hI : RI r) {left : Int64} (l0 : 0 ≤ left.toInt) (l1 : left.toInt ≤ 999999999999) : HB r p f (hasA r p f left) := by
  have key : ∀ (T : List Nat) (h : Nat → Int64), (∀ q ∈ T, q ∈ pos r) → HB r p f h → HB r p f (T.foldl (gwI r (dS r p f) p f) h) := by
    intro T
    induction T with
    | nil => intro h _ hB; exact hB
    | cons q T ih =>
      intro h hT hB
      rw [List.foldl_cons]
      exact ih _ (fun z hz => hT z (List.mem_cons_of_mem _ hz)) (gw_ok hI hB (hT q List.mem_cons_self))
  exact key _ _ (fun _ z => z) (HB_pay hI l0 l1)
theorem rent_leaf (hI : RI r) {i : Nat} (i1 : 1 ≤ i) (i2 : i ≤ nE r) (h4 : rI r 3 i = 4) : fiR r i = 0 ∧ whR r i = i := by
  have hE := hI.2.2.2.1 i i1 i2
  have hx := (hI.2.2.1.2.2.2.2.2 i i1 i2).2.1.2.1 h4
  have hw : whR r i = i := hE.2.1.2.2.2.1.mp hx.1
  refine ⟨?_, hw⟩
  rcases Nat.eq_zero_or_pos (fiR r i) with h | h
  · exact h
  · exfalso
    obtain ⟨a1, a2, a3, a4⟩ := hE.2.2.1.2.2 (by omega)
    have hF := hI.2.2.2.1 (fiR r i) (by omega) (by omega)
    have b1 := hF.2.1.2.2.2.2 (by rw [a3]; omega)
    rw [a3, hw] at b1
    have b3 : rI r 3 (fiR r i) = 4 := by rw [hF.2.2.2.1.2.2.1, ← b1]; exact h4
    have b4 := ((hI.2.2.1.2.2.2.2.2 (fiR r i) (by omega) (by omega)).2.1.2.1 b3).1
    rw [a3] at b4; omega
theorem rent_in (hI : RI r) {i : Nat} (h4 : rI r 3 i = 4) : inR r p f i ↔ 1 ≤ i ∧ i ≤ nE r ∧ (rkd r p f i && cB r p i) = true := by
  constructor
  · intro h
    obtain ⟨k1, k2, k3, -, -, -, kl⟩ := inR_k hI h
    obtain ⟨e1, e2⟩ := rent_leaf hI k1 k2 h4
    have hr : rkd r p f i = true := rkd_iff.mpr ⟨e1, by rw [e2]; exact h⟩
    refine ⟨k1, k2, ?_⟩
    rw [hr, Bool.true_and]
    unfold liesB at kl
    have hh : hloB r (sS r 39) (sS r 39) p i = true := by
      revert kl; cases hloB r (sS r 39) (sS r 39) p i <;> simp
    unfold hloB at hh
    rw [lvs_0 e1] at hh
    unfold cB
    simpa using hh
  · rintro ⟨k1, k2, h⟩
    have hr : rkd r p f i = true := by
      revert h; cases rkd r p f i <;> simp
    have := (rkd_iff.mp hr).2
    rw [(rent_leaf hI k1 k2 h4).2] at this
    exact this
theorem SQ_ag {w w' : Wd} {x m : Nat} {r0 : Rs} (hg : Ag w w') (hA : AT w x m r0 r) {rq mo sq : Nat} (h : SQ w x r p f rq mo sq) : SQ w' x r p f rq mo sq := by
  obtain ⟨⟨⟨a1, a2, a3, a4, a5⟩, b1, b2, b3⟩, c1, c2⟩ := h
  have g1 := hg rq (kz a1)
  have g2 := hg mo (kz b1)
  have g3 := hg sq (kz c1)
  have gx := hg x (kz hA.2.2.1.1.1)
  refine ⟨⟨⟨g1.1.trans a1, ?_, ?_, ?_, ?_⟩, g2.1.trans b1, ?_, ?_⟩, g3.1.trans c1, ?_⟩
  · rw [g1.2.2.2.2.1 6 0, a2, (AG_e hg hA).2.1]
  · rw [g1.2.2.1 6 1, a3]
  · rw [g1.2.2.2.2.1 6 2, a4]
  · rw [g1.2.2.2.2.1 6 3, a5, gx.2.2.2.2.1 10 6]
  · rw [g2.2.2.1 4 0, b2]
  · rw [g2.2.2.1 4 1, b3]
  · rw [g3.2.2.2.2.1 7 0, c2]
theorem AT_sold {w : Wd} {x m : Nat} {r0 r' : Rs} (hA : AT w x m r0 r') : AT (sI w 10 12 x (wI w 10 12 x + 1)) x m r0 (uS r' 43 (sS r' 43 + 1)) := by
  refine AT_cls hA (Sw.sI w 12 x _) ?_ rfl rfl rfl (Sr.uS 43 _ (by decide) (by decide) (by decide)) ?_ hA.2.2.2.2.2.2.2.2.2
  · funext k a; rw [(S_sI w 10 12 x _).2.2.2.2.2.2.2, if_neg (by omega)]
  · have hC := hA.2.2.1
    refine ⟨hC.1, ⟨hC.2.1.1, hC.2.1.2.1, hC.2.1.2.2.1, hC.2.1.2.2.2.1, hC.2.1.2.2.2.2.1, hC.2.1.2.2.2.2.2.1, hC.2.1.2.2.2.2.2.2.1, hC.2.1.2.2.2.2.2.2.2.1, ?_, hC.2.1.2.2.2.2.2.2.2.2.2⟩, hC.2.2⟩
    rw [(S_sI w 10 12 x _).2.2.2.2.2.2.2, if_pos ⟨rfl, rfl, rfl⟩, (R_uS r' 43 _).2.2.2, if_pos rfl, hC.2.1.2.2.2.2.2.2.2.2.1]
theorem sell_eq (hI : RI r) {P P' K K' : Nat → Bool} {S : Nat → Int64} {nw nw' : Nat → Int64} (hn : nw' = nw) (lo : Int64)
    (hP : ∀ z, P z = true ↔ 1 ≤ z ∧ z ≤ nE r ∧ (rkd r p f z && cB r p z) = true) (hP' : ∀ z, P' z = P z) (hK : ∀ k, K k = true ↔ inR r p f k) (hK' : ∀ k, K' k = K k) :
    uS (slS (uO (shS (uS r 41 0) S) lo) p nw' P' K' K') 43 (sS r 43 + 1) = uS (uS (slS (uO (shS r S) lo) p nw P K P) 43 (sS r 43 + 1)) 41 0 := by
  have eP : P' = P := funext hP'
  have eK : K' = K := funext hK'
  rw [hn, eP, eK]
  refine tup_eq (funext fun k => ?_) rfl (fun k i => ?_) (fun k i => rfl)
  · show (if k = 43 then sS r 43 + 1 else if k = 41 then 0 else sS r k) = (if k = 41 then 0 else if k = 43 then sS r 43 + 1 else sS r k)
    by_cases h43 : k = 43
    · subst h43; simp
    · simp [h43]
  · show (if k = 17 ∧ K i = true then sS r 39 else if k = 18 ∧ K i = true ∧ rI r 3 i = 4 then 1 else if (k = 28 ∨ k = 29) ∧ P (i / 60) = true ∧ i % 60 = p then sS r 39 else rI r k i) = (if k = 17 ∧ K i = true then sS r 39 else if k = 18 ∧ P i = true ∧ rI r 3 i = 4 then 1 else if (k = 28 ∨ k = 29) ∧ P (i / 60) = true ∧ i % 60 = p then sS r 39 else rI r k i)
    have e : (k = 18 ∧ K i = true ∧ rI r 3 i = 4) ↔ (k = 18 ∧ P i = true ∧ rI r 3 i = 4) := by
      constructor
      · rintro ⟨a, b, c⟩; exact ⟨a, (hP i).mpr ((rent_in hI c).mp ((hK i).mp b)), c⟩
      · rintro ⟨a, b, c⟩; exact ⟨a, (hK i).mpr ((rent_in hI c).mpr ((hP i).mp b)), c⟩
    simp only [e]
end W1
set_option maxHeartbeats 4000000 in
theorem sm_sell (X : Cx) (w : Wd) (x m : Nat) (r : Rs) (f p : Int32) (s c : Int64) (hA : AT w x m r r) : Ct X (7, nE r + 3, 60 * nE r + 9) mX10_sell [vR x, vI f, vI p, vJ s, vJ c] w (qJ fun v w1 => ∃ r', (AT w1 x m r r' ∧ nE r' = nE r) ∧ CM X w1 m bX11_sell mX11_sell [vI f, vI p, vJ s, vJ c] r (pJ fun u r1 => u = v ∧ Pe r' r1)) := by
  have hC := hA.2.2.1
  have hI := hA.2.2.2.2
  have hc := hI.1
  have h4 := hA.2.2.2.1
  have hz := hA.2.1.1
  refine oX10_sell X _ _ _ x f p s c w ⟨hC.1.1, (c_folioAt w x r f hC hc).R ?_⟩
  rintro a w1 ⟨rfl, rfl⟩
  refine ⟨nE r + 1, 60 * nE r + 2, ⟨by omega, by omega⟩, hC.1.1, oX10_offer X _ x _ p s c w1 ((c_saleFault w1 hz hI h4.1 f p s c).I ?_)⟩
  rintro v w2 ⟨rfl, rfl⟩
  refine ⟨hC.1.1, (c_settle w2 x _ hC.1.1).I ?_⟩
  rintro v w3 ⟨rfl, rfl⟩
  refine ⟨fun hq => ⟨fun q => absurd rfl q, fun _ => ?_⟩, fun hq => ?_⟩
  · rw [bI_0] at hq
    have hne : slF r f p s c ≠ 0 := by simpa using hq
    have hT := AT_st (slF r f p s c) hA
    refine ⟨_, ⟨hT, rfl⟩, pX11_sell X _ m hT.1.1 _ f p s c r ((s_wrongSale hT.1.1 hI f p s c).I ?_)⟩
    rintro v r1 ⟨rfl, rfl⟩
    refine ⟨fun q => absurd q (sl_pos hne), fun _ => (cm_ref hT.1.1 (Pe.rf _) _).I ?_⟩
    rintro u r2 ⟨rfl, hq2⟩
    exact ⟨rfl, hq2⟩
  rw [bI_n] at hq
  have hsl : slF r f p s c = 0 := by simpa using hq
  rw [hsl]
  obtain ⟨hw0, l0, l1⟩ := sl_ok hI hsl
  obtain ⟨a, b, rfl, rfl, ha, hb, hs6, hac, hbc, h0, ht⟩ := wrg0 hc hI.2.1 hw0
  rw [if_neg h0, hac]
  refine ⟨fun _ => ?_, fun q => absurd q (K_nz hz (h4.1 a ha).1)⟩
  refine c_offerOk hA ha hb s c _ (fun W w15 rq sq mo mv hAW hSQ hRW fx a15 hHa hs1 => ⟨fun _ => ?_, fun q => absurd q hs1⟩)
  rw [sa_eq hI] at a15
  have hT := AT_own a15 (payA (rbS r) b a (s - c)).2
  rw [qr_pay (qr_rb r)] at hT ⊢
  generalize hρ : uO (shS (uS r 41 0) (fun e => sumF (hasA r b a (s - c)) 0 (lvs (fiR r) e))) (payA r b a (s - c)).2 = ρ at hT
  have hqr : Qr r ρ := by rw [← hρ]; exact ⟨fun _ _ => rfl, ⟨rfl, rfl, rfl, rfl⟩, rfl, rfl, rfl, rfl⟩
  have hqb := qr_rb r
  have hIρ : RI ρ := hT.2.2.2.2
  have n1 := (qr_n hqr).2.1
  have k39 : sS ρ 39 = sS r 39 := hqr.2.2.2.2.2
  have kch : chF ρ a = chF r a := qr_ch hqr a
  have kchb : chF (rbS r) a = chF r a := qr_ch hqb a
  have kO : (ordS ρ (sS ρ 39) (sS ρ 39) b a).1 = (ordS r (sS r 39) (sS r 39) b a).1 := by rw [k39, (qr_ord hqr _ _ b a).1]
  have kOb : (ordS (rbS r) (sS r 39) (sS r 39) b a).1 = (ordS r (sS r 39) (sS r 39) b a).1 := by rw [(qr_ord hqb _ _ b a).1]
  have kd : dS ρ b a = dS r b a := qr_d hqr b a
  have kdb : dS (rbS r) b a = dS r b a := qr_d hqb b a
  have kh : hasA ρ b a (s - c) = hasA r b a (s - c) := qr_has hqr b a _
  have khb : hasA (rbS r) b a (s - c) = hasA r b a (s - c) := qr_has hqb b a _
  have krk : rkd ρ b a = rkd r b a := qr_rkd hqr b a
  have krkb : rkd (rbS r) b a = rkd r b a := qr_rkd hqb b a
  have kix : ix ρ 0 = ix r 0 := qr_ix hqr 0 rfl
  have hSQ7 : SQ (sJ w15 10 11 x (payA r b a (s - c)).2) x ρ b a rq mo sq := by
    have h15 : SQ w15 x (rbS r) b a rq mo sq := by
      unfold SQ RQ fA at *
      rw [fx.1, fx.2.1, fx.2.2.2.1, fx.2.2.2.2.2.2]
      exact hSQ
    unfold SQ at *
    rw [k39]
    exact h15
  refine ⟨nE r + 1, 60 * nE r + 2, 0, 0, ⟨by omega, by omega⟩, hSQ7.2.1, oX7_carryOut X _ _ _ sq _ ⟨nE r, 60 * nE r, ⟨rfl, rfl⟩, ?_⟩⟩
  rintro q1 hq0 hq1 w22 rfl
  have g0 := Ag.nO (w := sJ w15 10 11 x (payA r b a (s - c)).2) 0 q1 hq0
  have hSQ2 := SQ_ag g0 hT hSQ7
  rw [hSQ2.2.2, hSQ2.1.1.2.2.2.1, hSQ2.1.2.2.1]
  refine ⟨hSQ2.2.1, hSQ2.1.1.1, hSQ2.1.2.1, oX0_init X _ q1 _ _ _ ⟨by rw [nO_new]; decide, nO_new, ?_⟩⟩
  rintro w31 rfl V hVd
  have gV : Ag (sJ w15 10 11 x (payA r b a (s - c)).2) V := by rw [hVd]; exact (g0.sI 0 0 q1 _ hq0).sI 0 1 q1 _ hq0
  have zV : wK V 0 = 0 := by rw [hVd]; exact (nO_z hq1).trans hT.2.1.1
  have hV := AG_all gV zV hT
  have hSQV := SQ_ag gV hT hSQ7
  have kq : wK V q1 = 1 := by rw [hVd]; exact nO_new
  have kq0 : wI V 0 0 q1 = sS ρ 39 := by rw [hVd]; simp [S_sI]
  have kq2 : wI V 0 1 q1 = sS ρ 39 := by rw [hVd]; simp [S_sI]
  have ge := AG_e gV hT
  have hHaV : HaF ρ b a V x V (dS ρ b a) (hasA ρ b a (s - c)) := by
    intro y y1 y2 hy
    rw [n1] at y2
    have y2' : y ≤ nE ρ := by rw [n1]; exact y2
    rw [krk] at hy
    have k3 := (hT.2.2.2.1.2.1 y y1 y2').1.1
    have gy := gV _ (kz k3)
    have e15 : eA w15 x = eA W x := (fx.e x).1
    rw [ge.1, gy.2.2.2.1 2 9, gy.2.2.2.1 2 10, kd, kh]
    have hy' := hHa y y1 (by rw [(qr_n hqb).2.1]; exact y2) (by rw [krkb]; exact hy)
    rw [kdb, khb, ← e15] at hy'
    exact hy'
  have hCO : CO V x ρ b a rq mo sq q1 (dS ρ b a) (hasA ρ b a (s - c)) := ⟨hSQV, hHaV, kq, kq0, kq2⟩
  have hRV : RkS V x (chF ρ a) V (ordS ρ (sS ρ 39) (sS ρ 39) b a).1 mv := by
    intro y hy
    obtain ⟨c1, -, -, y1, y2, -⟩ := ch_w hT hy
    have gy := gV _ (kz c1)
    have hy2 : y ∈ chF (rbS r) a := by rw [kchb, ← kch]; exact hy
    have hr := hRW y hy2
    rw [ge.2.2 y y1 y2, gy.2.2.1 9 14, gy.2.2.1 9 15, kO, ← kOb]
    have e15 : wA w15 x = wA W x := (fx.e x).2.1
    rw [← e15, ← fx.2.2.2.1] at hr
    exact hr
  have hF := hV.2.2.2.1.1 a (by rw [(qr_n hqr).1]; exact ha)
  have hnl := nlv_le hIρ a
  rw [n1] at hnl
  refine ⟨hSQV.2.1, ?_⟩
  rw [hSQV.2.2, hSQV.1.1.2.1]
  refine ⟨hSQV.1.1.1, hF.1, ?_⟩
  refine c_carryLoop (f := a) hV (by omega) (by rw [kix]; exact hb) (HB_has hIρ l0 l1) hCO hRV _ _ _ (chF ρ a) (fun _ z => z) (chN_nodup ρ a _) _ _ _ V (fun _ => false) (fun _ => false) hnl (by omega) (Fe.rf V) (by rw [sl_0]; exact hV) (fun y q => by cases q) (fun z q => by cases q) (fun _ _ => rfl) hF.2.2.2.2.1 (fun w' P' K' hFe hA' hP' hK' => ?_)
  refine ⟨hA'.2.2.1.1.1, ?_⟩
  intro w40 hw40
  have hA4 := AT_sold hA'
  rw [← hw40] at hA4
  have e11 : wJ w40 10 11 x = (payA r b a (s - c)).2 := by
    have := hA4.2.2.1.2.1.2.2.2.2.2.2.2.1
    rw [this, ← hρ]; rfl
  rw [e11]
  have n2 : nE (uS (slS ρ b (nwS ρ (dS ρ b a) (hasA ρ b a (s - c))) P' K' K') 43 (sS (slS ρ b (nwS ρ (dS ρ b a) (hasA ρ b a (s - c))) P' K' K') 43 + 1)) = nE r := by
    rw [← n1]; rfl
  refine ⟨_, ⟨hA4, n2⟩, pX11_sell X _ m hA4.1.1 _ _ _ s c r ((s_wrongSale hA4.1.1 hI _ _ s c).I ?_)⟩
  rintro v r1 ⟨rfl, rfl⟩
  rw [hsl]
  refine ⟨fun _ => ?_, fun q => absurd (by decide) q⟩
  refine (s_give (r := r1) (p := b) (f := a) hA4.1.1 hI (by omega) (by have := hc.1.2; omega) s c l0 l1).J ?_
  rintro v r9 ⟨rfl, hP9, hG9, hO9⟩
  have hord := (ordS_ok (r := r1) (dy := sS r1 39) (as := sS r1 39) (p := b) (f := a) hI).in hI
  have hN := hI.1.2.1.2
  refine s_setLoop (ρ := uO (shS r1 (fun e => sumF (hasA r1 b a (s - c)) 0 (lvs (fiR r1) e))) (payA r1 b a (s - c)).2) (d := dS r1 b a) (h := hasA r1 b a (s - c)) (c := fun y => rkd r1 b a y && cB r1 b y) hA4.1.1 hI rfl rfl rfl (by omega) _ _ (fun r2 P hPz hP2 hO2 => ?_) (nE r1) 1 (fun _ => false) r9 (by omega) (by omega) (fun z => by simp; omega) (by rw [sl_0]; exact hP9) hG9 hO9
  refine s_runLoop (O := (ordS r1 (sS r1 39) (sS r1 39) b a).1) hA4.1.1 (fun o ho => ?_) ?_ _ _ (fun r3 K hK hP3 => ⟨rfl, ?_⟩) (ordS r1 (sS r1 39) (sS r1 39) b a).1.length 0 (fun _ => false) r2 (by omega) (fun k => by simp) hP2 hO2.1 hO2.2.1
  · have := (inR_k hI ho).2.1; omega
  · have := hord.2; omega
  · have hP4 : Pe (uS (uS (slS (uO (shS r1 (fun e => sumF (hasA r1 b a (s - c)) 0 (lvs (fiR r1) e))) (payA r1 b a (s - c)).2) b (nwS r1 (dS r1 b a) (hasA r1 b a (s - c))) P K P) 43 (sS r1 43 + 1)) 41 0) r3 := hP3
    have ePz : ∀ z, P' z = P z := fun z => by
      have h1 := hP' z
      have h2 := hPz z
      have h3 : P' z = true ↔ P z = true := by
        rw [h1, h2, krk, n1]
        have hcb : cB ρ b z = cB r1 b z := by unfold cB; rw [k39, qr_off hqr]
        rw [hcb]
        constructor
        · rintro (q | ⟨-, q2, q3, q4, q5⟩)
          · cases q
          · exact ⟨q2, q3, by rw [q4, q5]; rfl⟩
        · rintro ⟨q1, q2, q3⟩
          have q4 : rkd r1 b a z = true ∧ cB r1 b z = true := by simpa using q3
          refine Or.inr ⟨?_, q1, q2, q4⟩
          have hin := (rkd_iff.mp q4.1).2
          have hwh : whR ρ z = whR r1 z := by unfold whR; rw [qr_ix hqr 5 rfl]
          rw [kch, hwh]
          exact (inR_k hI hin).2.2.2.2.2.1
      cases hp1 : P' z with
      | true => exact (h3.mp hp1).symm
      | false =>
        cases hp2 : P z with
        | false => rfl
        | true => rw [h3.mpr hp2] at hp1; cases hp1
    have eKz : ∀ k, K' k = K k := fun k => by
      have h3 : K' k = true ↔ K k = true := by
        rw [hK' k, hK k, qr_inR hqr b a k, kch]
        constructor
        · rintro (q | q)
          · cases q
          · exact q.2
        · intro q
          exact Or.inr ⟨(inR_k hI q).2.2.2.2.2.1, q⟩
      cases hp1 : K' k with
      | true => exact (h3.mp hp1).symm
      | false =>
        cases hp2 : K k with
        | false => rfl
        | true => rw [h3.mpr hp2] at hp1; cases hp1
    have enw : nwS ρ (dS ρ b a) (hasA ρ b a (s - c)) = nwS r1 (dS r1 b a) (hasA r1 b a (s - c)) := by
      rw [kd, kh, ← hρ]; rfl
    have e43 : sS (slS ρ b (nwS ρ (dS ρ b a) (hasA ρ b a (s - c))) P' K' K') 43 = sS r1 43 := by rw [← hρ]; rfl
    rw [e43, enw, ← hρ, sell_eq (f := a) hI rfl _ hPz ePz hK eKz]
    exact hP4
