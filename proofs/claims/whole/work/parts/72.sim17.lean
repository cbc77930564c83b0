/-! ===== due, the class ===== -/
theorem sumF_c {f g : Nat → Int64} : ∀ (l : List Nat) (a : Int64), (∀ y ∈ l, f y = g y) → sumF f a l = sumF g a l := by
  intro l
  induction l with
  | nil => intro a _; rfl
  | cons y t ih =>
    intro a h
    show sumF f (a + f y) t = sumF g (a + g y) t
    rw [h y List.mem_cons_self]
    exact ih _ (fun z hz => h z (List.mem_cons_of_mem _ hz))
theorem c_dueOf {X : Cx} (w : Wd) (x : Nat) (r : Rs) (hI : RI r) (hW : CW w x r) (k : Nat) (k1 : 1 ≤ k) (k2 : k ≤ nE r) (k3 : paR r k = 0) (s : Int64) : Ct X bX8_dueOf mX8_dueOf [vR (wR w 9 3 (wA w x k)), vJ s, vI (sS r 39)] w (qJ fun v w' => v = dueF r k s ∧ w' = w) := by
  have hT := (hW k k1 k2 k3).2.2.1
  have int : Ct X bX8_withInterest mX8_withInterest [vR (wR w 9 3 (wA w x k)), vJ s, vI (sS r 39)] w (qJ fun v w' => v = iF r k s ∧ w' = w) := by
    refine oX8_withInterest X _ _ s _ w ⟨hT.1, ?_⟩
    rw [hT.2.2.1, hT.2.2.2.2.1, hT.2.2.2.2.2.1, min_sw]
    exact ⟨rfl, rfl⟩
  refine oX8_dueOf X _ _ s _ w ⟨hT.1, ?_⟩
  rw [hT.2.1, hT.2.2.2.1]
  refine ⟨fun h3 => int.J ?_, fun h4 => ?_, fun h5 => int.J ?_, fun h6 => ?_, fun h3 h4 h5 h6 => int.J ?_⟩
  · rintro v w1 ⟨rfl, rfl⟩
    exact ⟨by rw [dueF, if_neg (show ¬ rI r 3 k = 6 by rw [h3]; decide), if_neg (show ¬ rI r 3 k = 4 by rw [h3]; decide), if_pos h3], rfl⟩
  · rw [hT.2.2.2.2.2.2.2.2 h4]
    refine ⟨fun h => oX8_rentYears X _ _ _ w ⟨hT.1, ?_⟩, fun h => ⟨by rw [dueF, if_neg (show ¬ rI r 3 k = 6 by rw [h4]; decide), if_pos h4, if_neg h], rfl⟩⟩
    rw [hT.2.2.1]
    refine ⟨fun h0 => ⟨?_, rfl⟩, fun h0 => ⟨?_, rfl⟩⟩
    · rw [dueF, if_neg (show ¬ rI r 3 k = 6 by rw [h4]; decide), if_pos h4, if_pos h, rY, if_neg h0]
      by_cases hd : sS r 39 < rI r 11 k
      · rw [if_pos hd, if_pos ((sub_pos (hI.2.2.1.2.2.2.2.1 k k1 k2 k3) hI.2.2.2.2.2.1).mpr hd)]
      · rw [if_neg hd, if_neg (fun z => hd ((sub_pos (hI.2.2.1.2.2.2.2.1 k k1 k2 k3) hI.2.2.2.2.2.1).mp z))]
        rfl
    · rw [dueF, if_neg (show ¬ rI r 3 k = 6 by rw [h4]; decide), if_pos h4, if_pos h, rY, if_pos h0]
      rfl
  · rintro v w1 ⟨rfl, rfl⟩
    exact ⟨by rw [dueF, if_neg (by rw [h5]; decide), if_neg (by rw [h5]; decide), if_neg (by rw [h5]; decide)], rfl⟩
  · exact ⟨by rw [dueF, if_pos h6], rfl⟩
  · rintro v w1 ⟨rfl, rfl⟩
    exact ⟨by rw [dueF, if_neg h6, if_neg h4, if_neg h3], rfl⟩
theorem AT_lf {w : Wd} {x m : Nat} {r r' : Rs} (a : Nat) (v : Int64) (h : AT w x m r r') : AT (sJ w 2 9 a v) x m r r' :=
  ⟨MO_sJ 2 9 a v (by decide) h.1, h.2.1, h.2.2.1, ⟨CF_J (w := w) (r := r') rfl rfl rfl rfl rfl rfl rfl rfl h.2.2.2.1.1, h.2.2.2.1.2.1, h.2.2.2.1.2.2.1, h.2.2.2.1.2.2.2.1, h.2.2.2.1.2.2.2.2⟩, h.2.2.2.2⟩
theorem c_spreadLoop {X : Cx} (x m : Nat) (r0 r : Rs) (k : Nat) (k1 : 1 ≤ k) (k2 : k ≤ nE r) (k3 : paR r k = 0) : ∀ (l : List Nat) (a : Nat) (s d : Int64) (w : Wd), AT w x m r0 r → (∀ y ∈ l, 1 ≤ y ∧ y ≤ nE r) → l.Nodup → Lk (wR w 2 8) a (l.map (eA w x)) → ∀ A : Wd → Prop,
    (∀ w', AT w' x m r0 r → wR w' = wR w → wK w' = wK w → xR w' = xR w → (∀ y ∈ l, wJ w' 2 9 (eA w x y) = dvs (dueF r k) (rJ r 8) s d l y) → (∀ b, (∀ y ∈ l, b ≠ eA w x y) → wJ w' 2 9 b = wJ w 2 9 b) → A w') → jX9_spreadDue_11 X A (wA w x k) (sS r 39) s d a w := by
  intro l
  induction l with
  | nil =>
    intro a s d w hA _ _ hk A h
    exact tX9_spreadDue_11 X _ _ _ _ _ _ w ⟨fun _ => h w hA rfl rfl rfl (fun y hy => (by cases hy)) (fun _ _ => rfl), fun q => absurd hk q⟩
  | cons y l ih =>
    intro a s d w hA hl hnd hk A h
    obtain ⟨rfl, hn, hk⟩ := Lk_cons hk
    have hy := hl y List.mem_cons_self
    have hCy := hA.2.2.2.1.2.1 y hy.1 hy.2
    have hkk := hA.2.2.2.1.2.2.1 k k1 k2 k3
    refine tX9_spreadDue_11 X _ _ _ _ _ _ w ⟨fun q => absurd q hn, fun _ => ⟨hCy.1.1, hkk.1.1, hkk.2.2.1.1, ?_⟩⟩
    rw [hCy.2.1.2.1]
    refine (c_dueOf w x r hA.2.2.2.2 hA.2.2.2.1.2.2.1 k k1 k2 k3 _).J ?_
    rintro v w1 ⟨rfl, rfl⟩
    refine ⟨hCy.1.1, ?_⟩
    rintro w2 rfl
    have hnd2 := List.nodup_cons.mp hnd
    refine ih _ _ _ _ (AT_lf _ _ hA) (fun z hz => hl z (List.mem_cons_of_mem _ hz)) hnd2.2 hk A ?_
    intro w' hA' hR hK hX q1 q2
    have inj : ∀ z, 1 ≤ z → z ≤ nE r → eA w1 x z = eA w1 x y → z = y := fun z a b e => eA_inj hA.2.2.2.2.1 hA.2.2.2.1.2.1 a b hy.1 hy.2 e
    refine h w' hA' hR hK hX (fun z hz => ?_) (fun b hb => ?_)
    · by_cases hzy : z = y
      · subst hzy
        have := q2 (eA w1 x z) (fun u hu e => hnd2.1 (by have hu2 := hl u (List.mem_cons_of_mem _ hu); rw [← inj u hu2.1 hu2.2 e.symm]; exact hu))
        rw [this]
        show (if 2 = 2 ∧ 9 = 9 ∧ eA w1 x z = eA w1 x z then _ else _) = _
        simp [dvs]
      · rw [dvs, if_neg hzy]
        exact q1 z ((List.mem_cons.mp hz).resolve_left hzy)
    · have h1 := hb y List.mem_cons_self
      have := q2 b (fun u hu => hb u (List.mem_cons_of_mem _ hu))
      rw [this]
      show (if 2 = 2 ∧ 9 = 9 ∧ b = eA w1 x y then _ else wJ w1 2 9 b) = _
      rw [if_neg (fun z => h1 z.2.2)]
theorem c_ldLoop {X : Cx} (w : Wd) (x : Nat) (r : Rs) (f : Nat → Int64) (hz : wK w 0 = 0) (hc : RIc r) (hE : RIE r) (hC : CE w x r) (t : Nat) (ht1 : 1 ≤ t) (ht2 : t ≤ nE r) : ∀ (l : List Nat) (a : Nat) (s : Int64), (∀ y ∈ l, 1 ≤ y ∧ y ≤ nE r ∧ wJ w 2 9 (eA w x y) = f y) → Lk (wR w 2 8) a (l.map (eA w x)) → jX9_leafDueBelow_8 X (fun v w' => v = sumF f s (l.filter (fun y => blw (paR r) y t)) ∧ w' = w) (eA w x t) s a w := by
  intro l
  induction l with
  | nil =>
    intro a s _ hk
    exact tX9_leafDueBelow_8 X _ _ _ _ w ⟨fun _ => ⟨rfl, rfl⟩, fun h => absurd hk h⟩
  | cons y l ih =>
    intro a s hl hk
    obtain ⟨rfl, hn, hk⟩ := Lk_cons hk
    have hy := hl y List.mem_cons_self
    have hCy := hC y hy.1 hy.2.1
    refine tX9_leafDueBelow_8 X _ _ _ _ w ⟨fun h => absurd h hn, fun _ => ⟨hCy.1.1, (c_isBelow w x r hc hE hC (fun e a b => K_nz hz (hC e a b).1.1) t ht1 ht2 y hy.1 hy.2.1).I ?_⟩⟩
    rintro v w1 ⟨rfl, rfl⟩
    refine ⟨fun h => ⟨hCy.1.1, ?_⟩, fun h => ⟨hCy.1.1, ?_⟩⟩
    · rw [bI_0] at h
      rw [List.filter_cons_of_neg (by simp [h])]
      exact ih _ s (fun z hz => hl z (List.mem_cons_of_mem _ hz)) hk
    · rw [bI_n] at h
      rw [List.filter_cons_of_pos (p := fun y => blw (paR r) y t) h, hy.2.2]
      exact ih _ _ (fun z hz => hl z (List.mem_cons_of_mem _ hz)) hk
theorem s_dueSum {X : Cx} {w0 : Wd} {m : Nat} (hS : Sh w0 m) (r : Rs) (hc : RIc r) (hE : RIE r) (e : Nat) (h1 : 1 ≤ e) (h2 : e ≤ nE r) (A : Int64 → Rs → Prop) (hA : A (sumF (rJ r 49) 0 (lvs (fiR r) e)) (setL r e)) : iX11_due_32 X w0 m A 0 0 (setL r e) := by
  have hN := hc.2.1.2
  have H := HT_of hc hE
  have hl := lvs_len H h1 h2
  have key : ∀ (t : List Nat) (i : Nat) (s : Int64), (lvs (fiR r) e).drop i = t → i ≤ (lvs (fiR r) e).length → A (sumF (rJ r 49) s t) (setL r e) → iX11_due_32 X w0 m A s (nI i) (setL r e) := by
    intro t
    induction t with
    | nil =>
      intro i s ht hi hA
      have hi2 : (lvs (fiR r) e).length ≤ i := List.drop_eq_nil_iff.mp ht
      refine rX11_due_32 X w0 m hS _ s _ _ ?_
      rw [sL_48, nI_leI (by omega) (by omega)]
      exact ⟨fun _ => hA, fun q => absurd hi2 q⟩
    | cons y t ih =>
      intro i s ht hi hA
      have hi2 : i < (lvs (fiR r) e).length := by
        rcases Nat.lt_or_ge i (lvs (fiR r) e).length with h | h
        · exact h
        · rw [List.drop_eq_nil_iff.mpr h] at ht; cases ht
      have hy : (lvs (fiR r) e).getD i 0 = y := by
        have h3 : (lvs (fiR r) e)[i]? = some y := by rw [← List.head?_drop, ht]; rfl
        simp [List.getD, h3]
      have hym : y ∈ lvs (fiR r) e := by
        have : y ∈ (lvs (fiR r) e).drop i := by rw [ht]; exact List.mem_cons_self
        exact List.mem_of_mem_drop this
      have hyb := lvs_mem H e h1 h2 y hym
      have hic : (nI i).toNatClampNeg = i := nI_clamp (by omega)
      have hyc : (nI y).toNatClampNeg = y := nI_clamp (by omega)
      refine rX11_due_32 X w0 m hS _ s _ _ ?_
      rw [sL_48, nI_leI (by omega) (by omega), hic, sL_47 r e (by omega) hi2, hy, hyc, sL_J, ← nI_succ]
      refine ⟨fun q => absurd hi2 (by omega), fun _ => ⟨inN (by omega) (by omega), inN (by omega) (by omega), ?_⟩⟩
      exact ih (i + 1) (s + rJ r 49 y) (by rw [← List.drop_drop, ht]; rfl) (by omega) hA
  exact key _ 0 0 rfl (Nat.zero_le _) hA
theorem sm_due (e : Int32) : SmJ bX10_due mX10_due bX11_due mX11_due [vI e] := by
  intro X w x m r hA
  have hC := hA.2.2.1
  have hI := hA.2.2.2.2
  have hc := hI.1
  have hE := hI.2.2.2.1
  have h4 := hA.2.2.2.1
  have hN := hc.2.1.2
  refine oX10_due X _ x e w ⟨hC.1.1, (c_entryAt w x r e hC hc).R ?_⟩
  rintro a w1 ⟨rfl, rfl⟩
  cases he : entB r e
  · rw [if_neg (by decide)]
    refine ⟨fun q => absurd rfl q, fun _ => ⟨r, hA, ?_⟩⟩
    have hS := hA.1.1
    refine pX11_due X _ m hS _ e r ((s_isEntry hS r e).I ?_)
    rintro v r1 ⟨rfl, rfl⟩
    rw [he]
    exact ⟨fun q => absurd rfl q, fun _ => ⟨rfl, Pe.rf _⟩⟩
  rw [if_pos rfl]
  obtain ⟨n, rfl, h1, h2⟩ := ent_of hc he
  have hnc : (nI n).toNatClampNeg = n := nI_clamp (by omega)
  have hvn : vp_in (nI n) 301 := inN (by omega) (by omega)
  rw [hnc]
  have hCe := h4.2.1 n h1 h2
  have h0 := K_nz hA.2.1.1 hCe.1.1
  obtain ⟨k1, k2, k3⟩ := whole_of_e hE h4.2.2.1 h1 h2
  have hk := h4.2.2.1 _ k1 k2 k3
  have H := HT_of hc hE
  have hwk : whR r (whR r n) = whR r n := (hE n h1 h2).2.1.2.2.1
  have hflt := lvs_filter H h1 h2 _ k1 k2 (blw_root hE n h1 h2)
  rw [hCe.1.2.2.1, hC.2.1.2.2.2.1]
  refine ⟨fun _ => ⟨hCe.1.1, hC.1.1, hC.1.2.2.2.2.2.2, hk.1.1, oX9_spreadDue X _ _ _ w1 ⟨hk.1.1, ?_⟩⟩, fun q => absurd q h0⟩
  refine c_spreadLoop x m r r (whR r n) k1 k2 k3 (lvs (fiR r) (whR r n)) _ 0 0 w1 hA (fun y hy => by have := lvs_mem H _ k1 k2 y hy; omega) (lvs_nodup H _ k1 k2) hk.2.2.2.2.1 _ ?_
  intro w8 hA8 hR hK hX hv _
  have he8 : eA w8 x = eA w1 x := by funext y; unfold eA; rw [hR, hX]
  have hw8 : wA w8 x = wA w1 x := by funext y; unfold wA; rw [hR, he8]
  have hCe8 := hA8.2.2.2.1.2.1 n h1 h2
  have hk8 := hA8.2.2.2.1.2.2.1 _ k1 k2 k3
  rw [he8] at hCe8
  rw [hw8] at hCe8 hk8
  rw [hCe8.1.2.2.1]
  have hL := c_ldLoop (X := X) w8 x r (dvs (dueF r (whR r n)) (rJ r 8) 0 0 (lvs (fiR r) (whR r n))) hA8.2.1.1 hc hE hA8.2.2.2.1.2.1 n h1 h2 (lvs (fiR r) (whR r n)) _ 0 (fun y hy => by have := lvs_mem H _ k1 k2 y hy; exact ⟨by omega, by omega, by rw [he8]; exact hv y hy⟩) hk8.2.2.2.2.1
  rw [hflt, he8] at hL
  have ref : CM X w8 m bX11_due mX11_due [vI (nI n)] r (pJ fun u r1 => u = sumF (dvs (dueF r (whR r n)) (rJ r 8) 0 0 (lvs (fiR r) (whR r n))) 0 (lvs (fiR r) n) ∧ Pe r r1) := by
    have hS := hA8.1.1
    refine pX11_due X _ m hS _ _ r ((s_isEntry hS r _).I ?_)
    rintro v r1 ⟨rfl, rfl⟩
    rw [he, hnc, (hE n h1 h2).1.2.1]
    refine ⟨fun _ => ⟨hvn, (s_dues hS r1 hc hE _ k1 k2 hwk).V ?_⟩, fun q => absurd q (by decide)⟩
    rintro r2 ⟨hP, hval⟩
    have hI2 := RI_mv hP hI
    refine (s_leavesOf hS r2 hI2.1 hI2.2.2.2.1 n h1 (by rw [hP.nn.2.1]; exact h2)).V ?_
    rintro r3 rfl
    refine s_dueSum hS r2 hI2.1 hI2.2.2.2.1 n h1 (by rw [hP.nn.2.1]; exact h2) _ ⟨?_, hP.tr (Pe.sL n)⟩
    rw [hP.fi]
    refine sumF_c _ _ (fun y hy => hval y ?_)
    rw [← hflt] at hy
    exact (List.mem_filter.mp hy).1
  have hLc : Ct X bX9_leafDueBelow mX9_leafDueBelow [vR (wA w1 x (whR r n)), vR (eA w1 x n)] w8 (qJ fun v w' => v = sumF (dvs (dueF r (whR r n)) (rJ r 8) 0 0 (lvs (fiR r) (whR r n))) 0 (lvs (fiR r) n) ∧ w' = w8) := oX9_leafDueBelow X _ _ _ w8 ⟨hk8.1.1, hL⟩
  refine ⟨hCe8.1.1, hk8.1.1, hLc.J ?_⟩
  rintro v w9 ⟨rfl, rfl⟩
  exact ⟨r, hA8, ref⟩
