/-! ===== sale ===== -/
/-- all that the sale reads is the same -/
def Qr (r r' : Rs) : Prop := (∀ k, scI k = false → rI r' k = rI r k) ∧ (rJ r' 8 = rJ r 8 ∧ rJ r' 10 = rJ r 10 ∧ rJ r' 12 = rJ r 12 ∧ rJ r' 33 = rJ r 33) ∧ sS r' 2 = sS r 2 ∧ sS r' 30 = sS r 30 ∧ sS r' 38 = sS r 38 ∧ sS r' 39 = sS r 39
section Q1
variable {r r' : Rs}
theorem qr_ix (h : Qr r r') (k : Nat) (hk : scI k = false) : ix r' k = ix r k := by funext i; unfold ix; rw [h.1 k hk]
theorem qr_n (h : Qr r r') : nF r' = nF r ∧ nE r' = nE r ∧ nP r' = nP r := by unfold nF nE nP; rw [h.2.2.1, h.2.2.2.1, h.2.2.2.2.1]; exact ⟨rfl, rfl, rfl⟩
theorem qr_ch (h : Qr r r') (f : Nat) : chF r' f = chF r f := by
  have h1 : ∀ n, chN r' f n = chN r f n := by
    intro n
    induction n with
    | zero => rfl
    | succ n ih =>
      unfold chN insW paR foR
      rw [ih, qr_ix h 6 rfl, qr_ix h 4 rfl, h.1 13 rfl]
  unfold chF
  rw [(qr_n h).2.1]
  exact h1 _
theorem qr_off (h : Qr r r') (d a : Int32) (p : Nat) : ∀ e, offB r' d a p e = offB r d a p e := by
  have hpa : paR r' = paR r := by unfold paR; rw [qr_ix h 6 rfl]
  intro e
  induction e using Nat.strongRecOn with
  | ind e ih =>
    by_cases hc : e ≠ 0 ∧ paR r e < e
    · rw [offB_p hc, offB_p (r := r') (by rw [hpa]; exact hc), hpa, h.1 28 rfl, h.1 29 rfl, ih _ hc.2]
    · rw [offB_n hc, offB_n (r := r') (by rw [hpa]; exact hc)]
theorem qr_lies (h : Qr r r') (d a : Int32) (e p : Nat) : liesB r' d a e p = liesB r d a e p := by
  have hwh : whR r' = whR r := by unfold whR; rw [qr_ix h 5 rfl]
  have hfo : foR r' = foR r := by unfold foR; rw [qr_ix h 4 rfl]
  have hfi : fiR r' = fiR r := by unfold fiR; rw [qr_ix h 9 rfl]
  unfold liesB livB hloB
  simp only [qr_off h, hwh, hfo, hfi, h.2.1.2.1, h.1 1 rfl, qr_ix h 5 rfl, h.1 13 rfl, h.1 14 rfl, h.1 15 rfl, h.1 16 rfl]
theorem qr_ord (h : Qr r r') (dy as : Int32) (p f : Nat) : ordS r' dy as p f = ordS r dy as p f ∧ PLs r' dy as p f = PLs r dy as p f ∧ own r' = own r ∧ cntP r' dy as p f = cntP r dy as p f ∧ pos r' = pos r := by
  have hfs : fstB r' dy as = fstB r dy as := by funext w; unfold fstB; rw [h.1 3 rfl, h.1 22 rfl, h.1 23 rfl, h.1 20 rfl]
  have hpl : plB r' dy as p = plB r dy as p := by funext w; unfold plB; rw [h.1 3 rfl, qr_lies h, qr_ix h 24 rfl, h.1 26 rfl, h.1 27 rfl, qr_lies h]
  have hown : own r' = own r := by funext w; unfold own; rw [h.1 3 rfl, qr_ix h 24 rfl]
  have hadd : addO r' = addO r := by funext O w; unfold addO; rw [hown]
  have hfo : foR r' = foR r := by unfold foR; rw [qr_ix h 4 rfl]
  have hwh : whR r' = whR r := by unfold whR; rw [qr_ix h 5 rfl]
  have hgA : gA r' = gA r := by funext q; unfold gA; rw [hwh, qr_ix h 31 rfl]
  have hgB : gB r' = gB r := by funext q; unfold gB; rw [hwh, qr_ix h 32 rfl]
  have hcn : cntP r' dy as p f = cntP r dy as p f := by funext q; unfold cntP; rw [hfo, qr_ix h 31 rfl, qr_ix h 32 rfl, h.1 34 rfl, h.1 35 rfl, h.1 36 rfl, h.1 37 rfl, qr_lies h, qr_lies h]
  have hps : pstp r' dy as p f = pstp r dy as p f := by funext s q; unfold pstp; rw [hcn, hgA, hgB]
  have hpo : pos r' = pos r := by unfold pos; rw [(qr_n h).2.2]
  have hPL : PLs r' dy as p f = PLs r dy as p f := by unfold PLs; rw [qr_ch h, hpl, hfs]
  refine ⟨?_, hPL, hown, hcn, hpo⟩
  unfold ordS OLs
  rw [hps, hpo, hPL, hadd]
theorem qr_rkd (h : Qr r r') (p f : Nat) : rkd r' p f = rkd r p f := by
  funext y
  unfold rkd
  rw [h.2.2.2.2.2, (qr_ord h _ _ p f).1, show fiR r' = fiR r from qr_ix h 9 rfl, show whR r' = whR r from qr_ix h 5 rfl]
theorem qr_d (h : Qr r r') (p f : Nat) : dS r' p f = dS r p f := by
  funext y
  have hdue : ∀ k, dueF r' k = dueF r k := fun k => by
    funext s; unfold dueF iF rY
    rw [h.1 3 rfl, h.1 11 rfl, h.1 17 rfl, h.1 18 rfl, h.1 21 rfl, h.2.1.2.2.1, h.2.2.2.2.2]
  unfold dS duS
  rw [qr_rkd h, qr_off h, h.2.2.2.2.2, hdue, h.2.1.1, show fiR r' = fiR r from qr_ix h 9 rfl, show whR r' = whR r from qr_ix h 5 rfl]
theorem qr_pay (h : Qr r r') (p f : Nat) (left : Int64) : payA r' p f left = payA r p f left := by
  have hps : ∀ d, payS r' d = payS r d := fun d => by
    funext s w; unfold payS payM
    rw [h.1 3 rfl, h.2.1.1, (qr_ord h (sS r 39) (sS r 39) p f).2.2.1, show fiR r' = fiR r from qr_ix h 9 rfl]
  unfold payA
  rw [hps, qr_d h, h.2.2.2.2.2, (qr_ord h _ _ p f).2.1]
theorem qr_has (h : Qr r r') (p f : Nat) (left : Int64) : hasA r' p f left = hasA r p f left := by
  have hfi : fiR r' = fiR r := qr_ix h 9 rfl
  have hg : ∀ d, gwI r' d p f = gwI r d p f := fun d => by
    funext hh q; unfold gwI gwS gwY gwX
    rw [h.2.2.2.2.2, (qr_ord h _ _ p f).2.2.2.1, hfi, qr_ix h 31 rfl, qr_ix h 32 rfl, h.2.1.2.2.2]
  unfold hasA
  rw [hg, qr_d h, qr_pay h, (qr_ord h (sS r 39) (sS r 39) p f).2.2.2.2]
theorem qr_inR (h : Qr r r') (p f k : Nat) : inR r' p f k ↔ inR r p f k := by
  unfold inR; rw [h.2.2.2.2.2, (qr_ord h _ _ p f).1]
end Q1
theorem has_0 {r : Rs} (hI : RI r) (p f : Nat) (left : Int64) {y : Nat} (hy : rkd r p f y = false) : hasA r p f left y = 0 := by
  have lv : ∀ e, 1 ≤ e → e ≤ nE r → inR r p f (whR r e) → y ∉ lvs (fiR r) e := fun e a b c q => by
    have := rkd_lv hI c (lvq_sub hI a b y q)
    rw [hy] at this; cases this
  have pay : ∀ (l : List Nat), (∀ w ∈ l, w ∈ PLs r (sS r 39) (sS r 39) p f) → ∀ s : (Nat → Int64) × Int64, s.1 y = 0 → (l.foldl (payS r (dS r p f)) s).1 y = 0 := by
    intro l
    induction l with
    | nil => intro _ s h; exact h
    | cons w t ih =>
      intro hl s h
      refine ih (fun u hu => hl u (List.mem_cons_of_mem _ hu)) _ ?_
      have hwm := PLs_mem.mp (hl w List.mem_cons_self)
      have hv := pl_vW hI hwm.1 hwm.2
      obtain ⟨o1, o2, -, -⟩ := own_in hI hv
      have hko : inR r p f (own r w) := ((ordS_ok hI).2 _).mpr (OLs_mem.mpr ⟨w, hwm.1, hwm.2, rfl⟩)
      have hwo : whR r (own r w) = own r w := (hI.2.2.2.1 _ o1 o2).2.1.2.2.2.1.mp (inR_k hI hko).2.2.1
      show (getL _ _ _ _).1 y = 0
      rw [getL_off _ _ _ _ (lv _ o1 o2 (by rw [hwo]; exact hko))]; exact h
  have gw : ∀ (l : List Nat), (∀ q ∈ l, q ∈ pos r) → ∀ hh : Nat → Int64, hh y = 0 → l.foldl (gwI r (dS r p f) p f) hh y = 0 := by
    intro l
    induction l with
    | nil => intro _ hh h; exact h
    | cons q t ih =>
      intro hl hh h
      refine ih (fun u hu => hl u (List.mem_cons_of_mem _ hu)) _ ?_
      unfold gwI
      split
      · rename_i hc
        have hq := hl q List.mem_cons_self
        have hq' := pos_mem.mp hq
        have hp := hI.2.2.2.2.1 q hq'.1 hq'.2
        have hm := cntP_in hI hq hc
        have hO := ordS_ok (r := r) (dy := sS r 39) (as := sS r 39) (p := p) (f := f) hI
        have ka := lv _ hp.2.1 hp.2.2.1 ((hO.2 _).mpr hm.1)
        have kb := lv _ hp.2.2.2.2.1 hp.2.2.2.2.2 ((hO.2 _).mpr hm.2)
        unfold gwS
        rw [getL_off _ _ _ _ ka, getL_off _ _ _ _ kb, givL_off _ _ _ _ (fun z => kb (List.mem_reverse.mp z)), givL_off _ _ _ _ (fun z => ka (List.mem_reverse.mp z))]
        exact h
      · exact h
  unfold hasA payA
  exact gw _ (fun _ z => z) _ (pay _ (fun _ z => z) _ rfl)
theorem sumF_0 {h : Nat → Int64} : ∀ l : List Nat, (∀ y ∈ l, h y = 0) → sumF h 0 l = 0 := by
  intro l
  induction l with
  | nil => intro _; rfl
  | cons y t ih =>
    intro hl
    show sumF h (0 + h y) t = 0
    rw [hl y List.mem_cons_self, Int64.zero_add]
    exact ih (fun z hz => hl z (List.mem_cons_of_mem _ hz))
/-- before the sale: shares gone -/
def rbS (r : Rs) : Rs := shS (uS r 41 0) (fun _ => 0)
theorem qr_rb (r : Rs) : Qr r (rbS r) := ⟨fun _ _ => rfl, ⟨rfl, rfl, rfl, rfl⟩, rfl, rfl, rfl, rfl⟩
def slF (r : Rs) (f p : Int32) (s c : Int64) : Int32 := if wrgF r f p ≠ 0 then wrgF r f p else if s < 0 ∨ 999999999999 < s ∨ c < 0 ∨ 999999999999 < c ∨ s < c then 5 else 0
section Q2
variable {X : Cx} {x m : Nat} {r : Rs}
set_option maxHeartbeats 2000000 in
theorem c_offerOk {w : Wd} {a b : Nat} (hA : AT w x m r r) (ha : a < nF r) (hb : b < ix r 0 a) (s c : Int64) (B : Nat → Wd → Prop)
    (h : ∀ (W w15 : Wd) (rq sq mo : Nat) (mv : Nat → Int32), AT W x m r (rbS r) → SQ W x (rbS r) b a rq mo sq → RkS W x (chF (rbS r) a) W (ordS (rbS r) (sS r 39) (sS r 39) b a).1 mv → Fx W w15 → AT w15 x m r (shS (rbS r) (fun t => if inR (rbS r) b a (whR (rbS r) t) then sumF (hasA (rbS r) b a (s - c)) (rJ (rbS r) 62 t) (lvs (fiR (rbS r)) t) else rJ (rbS r) 62 t)) → HaF (rbS r) b a W x w15 (dS (rbS r) b a) (hasA (rbS r) b a (s - c)) → sq ≠ 0 → B sq (sJ w15 10 11 x (payA (rbS r) b a (s - c)).2)) :
    jX10_offer_24 X B x (fA w x a) (nI b) s c 0 (sI w 10 13 x 0) := by
  have hI := hA.2.2.2.2
  have hN := hI.1.2.1.2
  have h60 := (hI.2.1 a ha).2.2
  have hA0 := AT_st 0 hA
  have key : ∀ (n i : Nat) (w1 : Wd) (S : Nat → Int64), i + n = nE r → Ft (sI w 10 13 x 0) w1 → AT w1 x m r (shS (uS r 41 0) S) → (∀ t, 1 ≤ t → t ≤ i → S t = 0) → jX10_offer_24 X B x (fA w x a) (nI b) s c (nI i) w1 := by
    intro n
    induction n with
    | zero =>
      intro i w1 S hi hF hA1 hS
      have hA1' : AT w1 x m r (rbS r) := by
        unfold rbS
        rw [← shS_eq (S := S) (fun t t1 t2 => hS t t1 (by have : t ≤ nE r := t2; omega))]; exact hA1
      have e4 : wI w1 10 4 x = nI (nE r) := hA1.2.2.1.2.1.2.1.trans hI.1.2.1.1
      refine tX10_offer_24 X _ _ _ _ _ _ _ w1 ⟨hA1.2.2.1.1.1, fun _ => ?_, fun z => ?_⟩
      · rintro q3 hq0 hq1 w4 rfl
        have gx := (Ag.nO (w := w1) 6 q3 hq0) x (kz hA1.2.2.1.1.1)
        rw [gx.2.2.2.2.1 10 6, gx.2.2.2.2.1 10 8]
        have hfa : fA w x a = fA w1 x a := by rw [(hF.1.e x).2.2]; rfl
        rw [hfa]
        refine c_rankArr (r := rbS r) (dy := sS r 39) (as := sS r 39) hA1' hq0 hq1 (by omega) ha hb (mo := wR w1 10 8 x) hA1.2.2.1.1.2.2.2.2.2.2 hA1.2.2.1.2.1.2.2.2.1 hA1.2.2.1.2.1.2.2.2.2.1 _ (fun wb w8 hAb g hRQ hs hL hR h64 => ?_)
        have hA8 := AT_Sc hs.1 hAb
        rintro q11 hs0 hs1 w12 rfl
        refine oX7_init X _ q11 q3 (s - c) _ ⟨by rw [nO_new]; decide, nO_new, ?_⟩
        rintro w3 rfl w5 hW
        have gW : Ag w8 w5 := by rw [hW]; exact ((Ag.nO (w := w8) 7 q11 hs0).sR 7 0 q11 _ hs0).sJ 7 1 q11 _ hs0
        have zW : wK w5 0 = 0 := by rw [hW]; show wK (nO w8 7 q11) 0 = 0; rw [nO_z hs1]; exact hA8.2.1.1
        have hAW := AG_all gW zW hA8
        have ge := AG_e gW hA8
        have kq : wK w5 q11 = 8 := by rw [hW]; exact nO_new
        have k8 : wK w8 q3 = 7 := by rw [hs.1.1]; exact hRQ.1.1
        have g3 := gW q3 (kz k8)
        have gx8 := gW x (kz hA8.2.2.1.1.1)
        have kmo : wK w8 (wR w1 10 8 x) = 5 := by rw [hs.1.1]; exact hRQ.2.1
        have gmo := gW _ (kz kmo)
        have hSQ : SQ w5 x (rbS r) b a q3 (wR w1 10 8 x) q11 := by
          refine ⟨⟨⟨g3.1.trans k8, ?_, ?_, ?_, ?_⟩, gmo.1.trans kmo, ?_, ?_⟩, kq, by rw [hW]; simp [S_sR, S_sJ]⟩
          · rw [g3.2.2.2.2.1 6 0, hs.1.2.1, hRQ.1.2.1, ge.2.1, (hs.1.e x).2.2]
          · rw [g3.2.2.1 6 1, hs.2, hRQ.1.2.2.1]
          · rw [g3.2.2.2.2.1 6 2, hs.1.2.1, hRQ.1.2.2.2.1]
          · rw [g3.2.2.2.2.1 6 3, gx8.2.2.2.2.1 10 6, hs.1.2.1, hRQ.1.2.2.2.2]
          · rw [gmo.2.2.1 4 0, hs.1.2.2.2.2.2.2.1 4 0 (by omega) (by decide)]; exact hRQ.2.2.1
          · rw [gmo.2.2.1 4 1, hs.1.2.2.2.2.2.2.1 4 1 (by omega) (by decide)]; exact hRQ.2.2.2
        have adr : ∀ y ∈ chF (rbS r) a, wA w5 x y = wA wb x y ∧ wK w8 (wA wb x y) = 10 := fun y hy => by
          obtain ⟨c1, -, -, y1, y2, -⟩ := ch_w hAb hy
          refine ⟨by rw [ge.2.2 y y1 y2, (hs.1.e x).2.1], by rw [hs.1.1]; exact c1⟩
        have hLW : LiF (rbS r) (sS r 39) (sS r 39) b w5 x (chF (rbS r) a) w5 := fun y hy => by
          rw [(adr y hy).1, (gW _ (kz (adr y hy).2)).2.2.1 9 13]; exact hL y hy
        have hRW : RkS w5 x (chF (rbS r) a) w5 (ordS (rbS r) (sS r 39) (sS r 39) b a).1 (ordS (rbS r) (sS r 39) (sS r 39) b a).2 := fun y hy => by
          rw [(adr y hy).1, (gW _ (kz (adr y hy).2)).2.2.1 9 14, (gW _ (kz (adr y hy).2)).2.2.1 9 15]; exact hR y hy
        obtain ⟨pl, hCP⟩ := hAW.2.2.2.1.2.2.2.1
        refine ⟨kq, c_distribute (r := rbS r) hAW (PF_of hCP) (by omega) ha hb hSQ hLW hRW (s - c) (by rw [hW]; simp [S_sJ]) _ (fun w15 fx a15 hf h71 => ?_)⟩
        rw [fx.1, h71]
        refine ⟨kq, hAW.2.2.1.1.1, ?_⟩
        rintro w20 rfl
        exact h w5 w15 q3 q11 _ _ hAW hSQ hRW fx a15 hf hs1
      · rw [e4] at z
        exact absurd ((nI_leI (by omega) (by omega)).mpr (by omega)) z
    | succ n ih =>
      intro i w1 S hi hF hA1 hS
      have e4 : wI w1 10 4 x = nI (nE r) := hA1.2.2.1.2.1.2.1.trans hI.1.2.1.1
      have hCe := hA1.2.2.2.1.2.1 (i + 1) (by omega) (show i + 1 ≤ nE r by omega)
      have ee : xR w1 (wR w1 10 1 x) i = eA w1 x (i + 1) := rfl
      refine tX10_offer_24 X _ _ _ _ _ _ _ w1 ⟨hA1.2.2.1.1.1, fun z => ?_, fun _ => ?_⟩
      · rw [e4, nI_leI (by omega) (by omega)] at z; omega
      rw [nI_clamp (show i < 2 ^ 31 by omega), ee, nI_1]
      refine ⟨hA1.2.2.1.1.2.2.2.1, by rw [hA1.2.2.1.1.2.2.2.2.1]; exact inN (by omega) (by decide), fun z => absurd z (K_nz hA1.2.1.1 hCe.1.1), fun _ => ⟨hCe.1.1, ?_⟩⟩
      intro w25 hw25
      have hA25 := AT_sh (r := uS r 41 0) hA1 (e := i + 1) (by omega) (show i + 1 ≤ nE r by omega) 0
      rw [← hw25] at hA25
      refine ih (i + 1) w25 _ (by omega) (by rw [hw25]; exact hF.tr (Ft.s _ _ _)) hA25 (fun t t1 t2 => ?_)
      unfold upJ
      by_cases ht : t = i + 1
      · rw [if_pos ht]
      · rw [if_neg ht]; exact hS t t1 (by omega)
  exact key (nE r) 0 _ (rJ (uS r 41 0) 62) (by omega) (Ft.rf _) (by rw [shS_id]; exact hA0) (fun t t1 t2 => by omega)
theorem c_saleFault (w : Wd) (hz : wK w 0 = 0) (hI : RI r) (hF : CF w x r) (f p : Int32) (s c : Int64) : Ct X bX10_saleFault mX10_saleFault [vR (if f < 0 ∨ sS r 2 ≤ f then 0 else fA w x f.toNatClampNeg), vI p, vJ s, vJ c] w (qI fun v w' => v = slF r f p s c ∧ w' = w) := by
  refine oX10_saleFault X _ _ p s c w ((c_parcelFault w x r hz hI.1 hI.2.1 hF f p).I ?_)
  rintro v w1 ⟨rfl, rfl⟩
  refine ⟨fun h0 => oX10_isSum X _ s w1 ?_, fun h0 => ⟨by unfold slF; rw [if_pos h0], rfl⟩⟩
  rw [lg_lt, lg_gt s 999999999999]
  have F5 : (s < 0 ∨ 999999999999 < s ∨ c < 0 ∨ 999999999999 < c ∨ s < c) → (5 : Int32) = slF r f p s c := fun hc => by
    unfold slF; rw [if_neg (fun z => z h0), if_pos hc]
  refine ⟨fun z => ⟨fun _ => ⟨F5 (Or.inl z), rfl⟩, fun q => absurd rfl q⟩, fun z1 => ⟨fun z => ⟨fun _ => ⟨F5 (Or.inr (Or.inl z)), rfl⟩, fun q => absurd rfl q⟩, fun z2 => ⟨fun q => absurd q (by decide), fun _ => oX10_isSum X _ c w1 ?_⟩⟩⟩
  rw [lg_lt, lg_gt c 999999999999]
  refine ⟨fun z => ⟨fun _ => ⟨F5 (Or.inr (Or.inr (Or.inl z))), rfl⟩, fun q => absurd rfl q⟩, fun z3 => ⟨fun z => ⟨fun _ => ⟨F5 (Or.inr (Or.inr (Or.inr (Or.inl z)))), rfl⟩, fun q => absurd rfl q⟩, fun z4 => ⟨fun q => absurd q (by decide), fun _ => ?_⟩⟩⟩
  rw [lg_gt c s]
  refine ⟨fun z => ⟨F5 (Or.inr (Or.inr (Or.inr (Or.inr z)))), rfl⟩, fun z5 => ⟨?_, rfl⟩⟩
  unfold slF
  rw [if_neg (fun z => z h0), if_neg (by rintro (q | q | q | q | q); exact z1 q; exact z2 q; exact z3 q; exact z4 q; exact z5 q)]
theorem s_wrongSale {w0 : Wd} (hS : Sh w0 m) (hI : RI r) (f p : Int32) (s c : Int64) : CM X w0 m bX11_wrongSale mX11_wrongSale [vI f, vI p, vJ s, vJ c] r (pI fun v r1 => v = slF r f p s c ∧ r1 = r) := by
  refine pX11_wrongSale X w0 m hS _ f p s c r ((s_wrong hS r hI.1 hI.2.1 f p).I ?_)
  rintro v r1 ⟨rfl, rfl⟩
  rw [lg_lt, lg_gt, lg_lt, lg_gt, lg_le]
  by_cases h0 : wrgF r1 f p = 0
  · rw [h0]
    have F5 : (s < 0 ∨ 999999999999 < s ∨ c < 0 ∨ 999999999999 < c ∨ s < c) → (5 : Int32) = slF r1 f p s c := fun hc => by
      unfold slF; rw [if_neg (fun z => z h0), if_pos hc]
    refine ⟨fun _ => ⟨fun z => ⟨F5 (Or.inl z), rfl⟩, fun z1 => ⟨fun z => ⟨F5 (Or.inr (Or.inl z)), rfl⟩, fun z2 => ⟨fun z => ⟨F5 (Or.inr (Or.inr (Or.inl z))), rfl⟩, fun z3 => ⟨fun z => ⟨F5 (Or.inr (Or.inr (Or.inr (Or.inl z)))), rfl⟩, fun z4 => ⟨fun z5 => ⟨?_, rfl⟩, fun z5 => ⟨F5 (Or.inr (Or.inr (Or.inr (Or.inr ?_)))), rfl⟩⟩⟩⟩⟩⟩, fun z => absurd (by decide) z⟩
    · unfold slF
      rw [if_neg (fun z => z h0), if_neg (by
        rintro (q | q | q | q | q)
        · exact z1 q
        · exact z2 q
        · exact z3 q
        · exact z4 q
        · rw [Int64.lt_iff_toInt_lt] at q; rw [Int64.le_iff_toInt_le] at z5; omega)]
    · rw [Int64.lt_iff_toInt_lt]; rw [Int64.le_iff_toInt_le] at z5; omega
  · exact ⟨fun z => absurd z (wrg_pos h0), fun _ => ⟨by unfold slF; rw [if_pos h0], rfl⟩⟩
theorem sl_ok (hI : RI r) {f p : Int32} {s c : Int64} (h : slF r f p s c = 0) : wrgF r f p = 0 ∧ 0 ≤ (s - c).toInt ∧ (s - c).toInt ≤ 999999999999 := by
  unfold slF at h
  by_cases h0 : wrgF r f p = 0
  · rw [if_neg (fun z => z h0)] at h
    by_cases hc : s < 0 ∨ 999999999999 < s ∨ c < 0 ∨ 999999999999 < c ∨ s < c
    · rw [if_pos hc] at h; cases h
    · have a1 : ¬ s < 0 := fun q => hc (Or.inl q)
      have a2 : ¬ 999999999999 < s := fun q => hc (Or.inr (Or.inl q))
      have a3 : ¬ c < 0 := fun q => hc (Or.inr (Or.inr (Or.inl q)))
      have a5 : ¬ s < c := fun q => hc (Or.inr (Or.inr (Or.inr (Or.inr q))))
      rw [Int64.lt_iff_toInt_lt] at a1 a2 a3 a5
      have zM : (999999999999 : Int64).toInt = 999999999999 := rfl
      rw [i64_0] at a1 a3
      rw [zM] at a2
      rw [i64_sub (by omega) (by omega)]
      exact ⟨h0, by omega, by omega⟩
  · rw [if_pos h0] at h; exact absurd h h0
theorem sl_pos {f p : Int32} {s c : Int64} (h : slF r f p s c ≠ 0) : ¬ slF r f p s c ≤ 0 := by
  unfold slF at h ⊢
  by_cases h0 : wrgF r f p = 0
  · rw [if_neg (fun z => z h0)] at h ⊢
    by_cases hc : s < 0 ∨ 999999999999 < s ∨ c < 0 ∨ 999999999999 < c ∨ s < c
    · rw [if_pos hc]; decide
    · rw [if_neg hc] at h; exact absurd rfl h
  · rw [if_pos h0]; exact wrg_pos h0
/-- behind a sale -/
def saR (r : Rs) (p f : Nat) (left : Int64) : Rs := uO (shS (uS r 41 0) (fun e => sumF (hasA r p f left) 0 (lvs (fiR r) e))) (payA r p f left).2
theorem sa_eq (hI : RI r) (p f : Nat) (left : Int64) : shS (rbS r) (fun t => if inR (rbS r) p f (whR (rbS r) t) then sumF (hasA (rbS r) p f left) (rJ (rbS r) 62 t) (lvs (fiR (rbS r)) t) else rJ (rbS r) 62 t) = shS (uS r 41 0) (fun e => sumF (hasA r p f left) 0 (lvs (fiR r) e)) := by
  have hq := qr_rb r
  have e1 : ∀ S, shS (rbS r) S = shS (uS r 41 0) S := fun S => by
    unfold rbS
    have : ∀ k i, (if k = 62 ∧ 1 ≤ i ∧ i ≤ nE r then S i else if k = 62 ∧ 1 ≤ i ∧ i ≤ nE r then (0 : Int64) else rJ r k i) = (if k = 62 ∧ 1 ≤ i ∧ i ≤ nE r then S i else rJ r k i) := fun k i => by
      by_cases hk : k = 62 ∧ 1 ≤ i ∧ i ≤ nE r
      · rw [if_pos hk, if_pos hk]
      · rw [if_neg hk, if_neg hk, if_neg hk]
    show (sS (uS r 41 0), sO r, rI r, fun k i => if k = 62 ∧ 1 ≤ i ∧ i ≤ nE r then S i else if k = 62 ∧ 1 ≤ i ∧ i ≤ nE r then (0 : Int64) else rJ r k i) = (sS (uS r 41 0), sO r, rI r, fun k i => if k = 62 ∧ 1 ≤ i ∧ i ≤ nE r then S i else rJ r k i)
    rw [show (fun k i => if k = 62 ∧ 1 ≤ i ∧ i ≤ nE r then S i else if k = 62 ∧ 1 ≤ i ∧ i ≤ nE r then (0 : Int64) else rJ r k i) = (fun k i => if k = 62 ∧ 1 ≤ i ∧ i ≤ nE r then S i else rJ r k i) from funext fun k => funext fun i => this k i]
  rw [e1]
  refine shS_eq (fun t t1 t2 => ?_)
  have t2' : t ≤ nE r := t2
  have e62 : rJ (rbS r) 62 t = 0 := by
    show (if 62 = 62 ∧ 1 ≤ t ∧ t ≤ nE (uS r 41 0) then (0 : Int64) else _) = 0
    rw [if_pos ⟨rfl, t1, t2⟩]
  rw [qr_has hq, e62]
  by_cases hk : inR r p f (whR r t)
  · have hk1 : inR (rbS r) p f (whR (rbS r) t) := (qr_inR hq p f _).mpr hk
    rw [if_pos hk1]; rfl
  · have hk1 : ¬ inR (rbS r) p f (whR (rbS r) t) := fun z => hk ((qr_inR hq p f _).mp z)
    rw [if_neg hk1]
    refine (sumF_0 _ (fun y hy => has_0 hI p f left ?_)).symm
    cases hr : rkd r p f y with
    | false => rfl
    | true =>
      exfalso
      obtain ⟨k1, k2, k3⟩ := whole_of_r hI t1 t2'
      have hy' := lv_wh hI k1 k2 k3 (lvq_sub hI t1 t2' y hy)
      have := (rkd_iff.mp hr).2
      rw [hy'.1] at this; exact hk this
theorem AT_own {w : Wd} {r0 r' : Rs} (hA : AT w x m r0 r') (v : Int64) : AT (sJ w 10 11 x v) x m r0 (uO r' v) := by
  refine AT_cls hA (Sw.sJ w 11 x v) rfl ?_ rfl rfl ⟨fun _ _ => rfl, fun _ _ => rfl, rfl, rfl, rfl⟩ ?_ hA.2.2.2.2.2.2.2.2.2
  · funext k a; rw [(S_sJ w 10 11 x v).2.2.2.2.2.2.2, if_neg (by omega)]
  · have hC := hA.2.2.1
    refine ⟨hC.1, ⟨hC.2.1.1, hC.2.1.2.1, hC.2.1.2.2.1, hC.2.1.2.2.2.1, hC.2.1.2.2.2.2.1, hC.2.1.2.2.2.2.2.1, hC.2.1.2.2.2.2.2.2.1, ?_, hC.2.1.2.2.2.2.2.2.2.2⟩, hC.2.2⟩
    show (if 10 = 10 ∧ 11 = 11 ∧ x = x then v else _) = v
    rw [if_pos ⟨rfl, rfl, rfl⟩]
end Q2
theorem sm_sale (f p : Int32) (s c : Int64) : SmJ bX10_sale mX10_sale bX11_sale mX11_sale [vI f, vI p, vJ s, vJ c] := by
  intro X w x m r hA
  have hC := hA.2.2.1
  have hI := hA.2.2.2.2
  have hc := hI.1
  have h4 := hA.2.2.2.1
  have hz := hA.2.1.1
  refine oX10_sale X _ x f p s c w ⟨hC.1.1, (c_folioAt w x r f hC hc).R ?_⟩
  rintro a w1 ⟨rfl, rfl⟩
  refine ⟨hC.1.1, oX10_offer X _ x _ p s c w1 ((c_saleFault w1 hz hI h4.1 f p s c).I ?_)⟩
  rintro v w2 ⟨rfl, rfl⟩
  refine ⟨hC.1.1, (c_settle w2 x _ hC.1.1).I ?_⟩
  rintro v w3 ⟨rfl, rfl⟩
  refine ⟨fun hq => ⟨fun q => absurd rfl q, fun _ => ?_⟩, fun hq => ?_⟩
  · rw [bI_0] at hq
    have hne : slF r f p s c ≠ 0 := by simpa using hq
    have hT := AT_st (slF r f p s c) hA
    refine ⟨_, hT, pX11_sale X _ m hT.1.1 _ f p s c r ((s_wrongSale hT.1.1 hI f p s c).I ?_)⟩
    rintro v r1 ⟨rfl, rfl⟩
    refine ⟨fun q => absurd q (sl_pos hne), fun _ => (cm_ref hT.1.1 (Pe.rf _) _).I ?_⟩
    rintro u r2 ⟨rfl, hq2⟩
    exact ⟨rfl, hq2⟩
  · rw [bI_n] at hq
    have hsl : slF r f p s c = 0 := by simpa using hq
    rw [hsl]
    obtain ⟨hw0, l0, l1⟩ := sl_ok hI hsl
    obtain ⟨a, b, rfl, rfl, ha, hb, hs6, hac, hbc, h0, ht⟩ := wrg0 hc hI.2.1 hw0
    rw [if_neg h0, hac]
    refine ⟨fun _ => ?_, fun q => absurd q (K_nz hz (h4.1 a ha).1)⟩
    refine c_offerOk hA ha hb s c _ (fun W w15 rq sq mo mv hAW hSQ hRW fx a15 hHa hs1 => ⟨fun _ => ?_, fun q => absurd q hs1⟩)
    rw [sa_eq hI] at a15
    have hT := AT_own a15 (payA (rbS r) b a (s - c)).2
    refine ⟨hT.2.2.1.1.1, _, hT, pX11_sale X _ m hT.1.1 _ _ _ s c r ((s_wrongSale hT.1.1 hI _ _ s c).I ?_)⟩
    rintro v r1 ⟨rfl, rfl⟩
    rw [hsl]
    refine ⟨fun _ => ?_, fun q => absurd (by decide) q⟩
    rintro r5 rfl
    have hI5 : RI (uS r1 41 0) := (AT_st 0 hA).2.2.2.2
    have hq5 : Qr r1 (uS r1 41 0) := ⟨fun _ _ => rfl, ⟨rfl, rfl, rfl, rfl⟩, rfl, rfl, rfl, rfl⟩
    refine (s_give (r := uS r1 41 0) (p := b) (f := a) hT.1.1 hI5 (by omega) (by have := hc.1.2; omega) s c l0 l1).J ?_
    rintro v r9 ⟨rfl, hP, -, -⟩
    rw [qr_pay hq5, qr_has hq5] at hP
    rw [qr_pay hq5]
    refine ⟨?_, ?_⟩
    · show _ = (if 10 = 10 ∧ 11 = 11 ∧ x = x then (payA (rbS r1) b a (s - c)).2 else _)
      rw [if_pos ⟨rfl, rfl, rfl⟩, qr_pay (qr_rb r1)]
    · rw [qr_pay (qr_rb r1)]; exact hP
