/-! ===== sums over leaves; share, sum ===== -/
def sumF (f : Nat → Int64) (a : Int64) (l : List Nat) : Int64 := l.foldl (fun s y => s + f y) a
theorem sL_48 (r : Rs) (e : Nat) : sS (setL r e) 48 = nI (lvs (fiR r) e).length := by
  have := addL_48 (lvs (fiR r) e) (uS r 48 0) 0 rfl
  rw [Nat.zero_add] at this
  exact this
theorem sL_47 (r : Rs) (e : Nat) (hl : (lvs (fiR r) e).length < 2 ^ 31) {i : Nat} (hi : i < (lvs (fiR r) e).length) : rI (setL r e) 47 i = nI ((lvs (fiR r) e).getD i 0) := by
  have := addL_47 (lvs (fiR r) e) (uS r 48 0) 0 rfl (by omega) i
  rw [dif_pos (by omega)] at this
  exact this
theorem sL_J (r : Rs) (e : Nat) : rJ (setL r e) = rJ r := (addL_J _ _).1
section C3
variable {X : Cx} {w0 : Wd} {m : Nat}
theorem s_sumBelow (hS : Sh w0 m) (r : Rs) (hc : RIc r) (hE : RIE r) (e : Nat) (h1 : 1 ≤ e) (h2 : e ≤ nE r) : CM X w0 m bX11_sumBelow mX11_sumBelow [vI (nI e)] r (pJ fun v r1 => v = sumF (rJ r 8) 0 (lvs (fiR r) e) ∧ r1 = setL r e) := by
  have hN := hc.2.1.2
  have H := HT_of hc hE
  have hl := lvs_len H h1 h2
  refine pX11_sumBelow X w0 m hS _ _ r ((s_leavesOf hS r hc hE e h1 h2).V ?_)
  rintro r1 rfl
  have key : ∀ (t : List Nat) (i : Nat) (s : Int64), (lvs (fiR r) e).drop i = t → i ≤ (lvs (fiR r) e).length → iX11_sumBelow_10 X w0 m (fun v r1 => v = sumF (rJ r 8) s t ∧ r1 = setL r e) s (nI i) (setL r e) := by
    intro t
    induction t with
    | nil =>
      intro i s ht hi
      have hi2 : (lvs (fiR r) e).length ≤ i := List.drop_eq_nil_iff.mp ht
      refine rX11_sumBelow_10 X w0 m hS _ s _ _ ?_
      rw [sL_48, nI_leI (by omega) (by omega)]
      exact ⟨fun _ => ⟨rfl, rfl⟩, fun q => absurd hi2 q⟩
    | cons y t ih =>
      intro i s ht hi
      have hi2 : i < (lvs (fiR r) e).length := by
        rcases Nat.lt_or_ge i (lvs (fiR r) e).length with h | h
        · exact h
        · rw [List.drop_eq_nil_iff.mpr h] at ht; cases ht
      have hy : (lvs (fiR r) e).getD i 0 = y := by
        have h3 : (lvs (fiR r) e)[i]? = some y := by rw [← List.head?_drop, ht]; rfl
        simp [List.getD, h3]
      have hym : y ∈ lvs (fiR r) e := by
        have : y ∈ (lvs (fiR r) e).drop i := by rw [ht]; exact List.mem_cons_self
        exact List.mem_of_mem_drop this
      have hyb := lvs_mem H e h1 h2 y hym
      have hic : (nI i).toNatClampNeg = i := nI_clamp (by omega)
      have hyc : (nI y).toNatClampNeg = y := nI_clamp (by omega)
      refine rX11_sumBelow_10 X w0 m hS _ s _ _ ?_
      rw [sL_48, nI_leI (by omega) (by omega), hic, sL_47 r e (by omega) hi2, hy, hyc, sL_J, ← nI_succ]
      refine ⟨fun q => absurd hi2 (by omega), fun _ => ⟨inN (by omega) (by omega), inN (by omega) (by omega), ?_⟩⟩
      exact ih (i + 1) (s + rJ r 8 y) (by rw [← List.drop_drop, ht]; rfl) (by omega)
  exact key _ 0 0 rfl (Nat.zero_le _)
/-- the class's sum over a chain of leaves, those below t alone -/
theorem c_owedLoop (w : Wd) (x : Nat) (r : Rs) (hz : wK w 0 = 0) (hc : RIc r) (hE : RIE r) (hC : CE w x r) (t : Nat) (ht1 : 1 ≤ t) (ht2 : t ≤ nE r) : ∀ (l : List Nat) (a : Nat) (s : Int64), (∀ y ∈ l, 1 ≤ y ∧ y ≤ nE r) → Lk (wR w 2 8) a (l.map (eA w x)) → jX9_owedBelow_8 X (fun v w' => v = sumF (rJ r 8) s (l.filter (fun y => blw (paR r) y t)) ∧ w' = w) (eA w x t) s a w := by
  have ht0 : eA w x t ≠ 0 := K_nz hz (hC t ht1 ht2).1.1
  intro l
  induction l with
  | nil =>
    intro a s _ hk
    exact tX9_owedBelow_8 X _ _ _ _ w ⟨fun _ => ⟨rfl, rfl⟩, fun h => absurd hk h⟩
  | cons y l ih =>
    intro a s hl hk
    obtain ⟨rfl, hn, hk⟩ := Lk_cons hk
    have hy := hl y List.mem_cons_self
    have hCy := hC y hy.1 hy.2
    refine tX9_owedBelow_8 X _ _ _ _ w ⟨fun h => absurd h hn, fun _ => ⟨fun h => absurd h ht0, fun _ => ⟨hCy.1.1, (c_isBelow w x r hc hE hC (fun e a b => K_nz hz (hC e a b).1.1) t ht1 ht2 y hy.1 hy.2).I ?_⟩⟩⟩
    rintro v w1 ⟨rfl, rfl⟩
    refine ⟨fun h => ⟨hCy.1.1, ?_⟩, fun h => ⟨hCy.1.1, ?_⟩⟩
    · rw [bI_0] at h
      rw [List.filter_cons_of_neg (by simp [h])]
      exact ih _ s (fun z hz => hl z (List.mem_cons_of_mem _ hz)) hk
    · rw [bI_n] at h
      rw [List.filter_cons_of_pos (p := fun y => blw (paR r) y t) h, hCy.2.1.2.1]
      exact ih _ _ (fun z hz => hl z (List.mem_cons_of_mem _ hz)) hk
theorem c_owedAll (w : Wd) (x : Nat) (r : Rs) (hC : CE w x r) : ∀ (l : List Nat) (a : Nat) (s : Int64), (∀ y ∈ l, 1 ≤ y ∧ y ≤ nE r) → Lk (wR w 2 8) a (l.map (eA w x)) → jX9_owedBelow_8 X (fun v w' => v = sumF (rJ r 8) s l ∧ w' = w) 0 s a w := by
  intro l
  induction l with
  | nil =>
    intro a s _ hk
    exact tX9_owedBelow_8 X _ _ _ _ w ⟨fun _ => ⟨rfl, rfl⟩, fun h => absurd hk h⟩
  | cons y l ih =>
    intro a s hl hk
    obtain ⟨rfl, hn, hk⟩ := Lk_cons hk
    have hy := hl y List.mem_cons_self
    have hCy := hC y hy.1 hy.2
    refine tX9_owedBelow_8 X _ _ _ _ w ⟨fun h => absurd h hn, fun _ => ⟨fun _ => ⟨hCy.1.1, ?_⟩, fun h => absurd rfl h⟩⟩
    rw [hCy.2.1.2.1]
    exact ih _ _ (fun z hz => hl z (List.mem_cons_of_mem _ hz)) hk
/-- what the tree and the whole of an entry are -/
theorem whole_of_e {w : Wd} {x : Nat} {r : Rs} (hE : RIE r) (hW : CW w x r) {e : Nat} (h1 : 1 ≤ e) (h2 : e ≤ nE r) : 1 ≤ whR r e ∧ whR r e ≤ nE r ∧ paR r (whR r e) = 0 := by
  have hI := hE e h1 h2
  have hk1 : 1 ≤ whR r e := hI.2.1.1
  have hk2 : whR r e ≤ nE r := Nat.le_trans hI.2.1.2.1 h2
  exact ⟨hk1, hk2, (hE _ hk1 hk2).2.1.2.2.2.1.mpr hI.2.1.2.2.1⟩
theorem c_owedBelow (w : Wd) (x : Nat) (r : Rs) (hz : wK w 0 = 0) (hc : RIc r) (hE : RIE r) (hC : CE w x r) (hW : CW w x r) (e : Nat) (h1 : 1 ≤ e) (h2 : e ≤ nE r) : Ct X bX9_owedBelow mX9_owedBelow [vR (wA w x (whR r e)), vR (eA w x e)] w (qJ fun v w' => v = sumF (rJ r 8) 0 (lvs (fiR r) e) ∧ w' = w) := by
  obtain ⟨k1, k2, k3⟩ := whole_of_e hE hW h1 h2
  have hk := hW _ k1 k2 k3
  have H := HT_of hc hE
  refine oX9_owedBelow X _ _ _ w ⟨hk.1.1, ?_⟩
  have h := c_owedLoop (X := X) w x r hz hc hE hC e h1 h2 (lvs (fiR r) (whR r e)) _ 0 (fun y hy => by have := lvs_mem H _ k1 k2 y hy; omega) hk.2.2.2.2.1
  rw [lvs_filter H h1 h2 _ k1 k2 (blw_root hE e h1 h2)] at h
  exact h
theorem c_owedWhole (w : Wd) (x : Nat) (r : Rs) (hc : RIc r) (hE : RIE r) (hC : CE w x r) (hW : CW w x r) (k : Nat) (k1 : 1 ≤ k) (k2 : k ≤ nE r) (k3 : paR r k = 0) : Ct X bX9_owedBelow mX9_owedBelow [vR (wA w x k), vR 0] w (qJ fun v w' => v = sumF (rJ r 8) 0 (lvs (fiR r) k) ∧ w' = w) := by
  have hk := hW _ k1 k2 k3
  have H := HT_of hc hE
  exact oX9_owedBelow X _ _ _ w ⟨hk.1.1, c_owedAll w x r hC _ _ 0 (fun y hy => by have := lvs_mem H _ k1 k2 y hy; omega) hk.2.2.2.2.1⟩
end C3
theorem sm_share (e : Int32) : SmJ bX10_share mX10_share bX11_share mX11_share [vI e] := by
  intro X w x m r hA
  have hC := hA.2.2.1
  have hc := hA.2.2.2.2.1
  have h4 := hA.2.2.2.1
  refine oX10_share X _ x e w ⟨hC.1.1, (c_entryAt w x r e hC hc).R ?_⟩
  rintro a w1 ⟨rfl, rfl⟩
  cases he : entB r e
  · rw [if_neg (by decide)]
    refine ⟨fun q => absurd rfl q, fun _ => ⟨r, hA, pX11_share X w1 m hA.1.1 _ e r ((s_isEntry hA.1.1 r e).I ?_)⟩⟩
    rintro v r1 ⟨rfl, rfl⟩
    rw [he]
    exact ⟨fun _ => ⟨rfl, Pe.rf _⟩, fun q => absurd rfl q⟩
  · rw [if_pos rfl]
    obtain ⟨n, rfl, h1, h2⟩ := ent_of hc he
    have hN := hc.2.1.2
    have hnc : (nI n).toNatClampNeg = n := nI_clamp (by omega)
    rw [hnc]
    have hCe := h4.2.1 n h1 h2
    refine ⟨fun _ => ⟨hCe.1.1, r, hA, pX11_share X w1 m hA.1.1 _ _ r ((s_isEntry hA.1.1 r _).I ?_)⟩, fun q => absurd q (K_nz hA.2.1.1 hCe.1.1)⟩
    rintro v r1 ⟨rfl, rfl⟩
    rw [he, hnc, hCe.2.1.2.2.2.1]
    exact ⟨fun q => absurd q (by decide), fun _ => ⟨inN (by omega) (by omega), rfl, Pe.rf _⟩⟩
theorem sm_sum (e : Int32) : SmJ bX10_sum mX10_sum bX11_sum mX11_sum [vI e] := by
  intro X w x m r hA
  have hC := hA.2.2.1
  obtain ⟨hc, hf, hb, hE, hp, hd⟩ := hA.2.2.2.2
  have h4 := hA.2.2.2.1
  refine oX10_sum X _ x e w ⟨hC.1.1, (c_entryAt w x r e hC hc).R ?_⟩
  rintro a w1 ⟨rfl, rfl⟩
  cases he : entB r e
  · rw [if_neg (by decide)]
    refine ⟨fun q => absurd rfl q, fun _ => ⟨r, hA, pX11_sum X w1 m hA.1.1 _ e r ((s_isEntry hA.1.1 r e).I ?_)⟩⟩
    rintro v r1 ⟨rfl, rfl⟩
    rw [he]
    exact ⟨fun _ => ⟨rfl, Pe.rf _⟩, fun q => absurd rfl q⟩
  · rw [if_pos rfl]
    obtain ⟨n, rfl, h1, h2⟩ := ent_of hc he
    have hN := hc.2.1.2
    have hnc : (nI n).toNatClampNeg = n := nI_clamp (by omega)
    rw [hnc]
    have hCe := h4.2.1 n h1 h2
    obtain ⟨k1, k2, k3⟩ := whole_of_e hE h4.2.2.1 h1 h2
    rw [hCe.1.2.2.1]
    refine ⟨fun _ => ⟨hCe.1.1, (h4.2.2.1 _ k1 k2 k3).1.1, (c_owedBelow w1 x r hA.2.1.1 hc hE h4.2.1 h4.2.2.1 n h1 h2).J ?_⟩, fun q => absurd q (K_nz hA.2.1.1 hCe.1.1)⟩
    rintro v w2 ⟨rfl, rfl⟩
    refine ⟨r, hA, pX11_sum X _ m hA.1.1 _ _ r ((s_isEntry hA.1.1 r _).I ?_)⟩
    rintro v r1 ⟨rfl, rfl⟩
    rw [he]
    refine ⟨fun q => absurd q (by decide), fun _ => (s_sumBelow hA.1.1 r1 hc hE n h1 h2).J ?_⟩
    rintro v r2 ⟨rfl, rfl⟩
    exact ⟨rfl, Pe.sL n⟩
