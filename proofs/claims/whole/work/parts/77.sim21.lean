/-! ===== enter: the class's new world ===== -/
theorem map_c {g h : Nat → Nat} {l : List Nat} (e : ∀ y ∈ l, g y = h y) : l.map g = l.map h := List.map_congr_left e
section C22
variable (r : Rs) (N f : Nat) (ki : Int32) (s : Int64) (rt : Int32) (P : Int64) (d t : Int32)
theorem en_r0 : rI (enR r N f ki s rt P d t) 0 = rI r 0 := rfl
theorem en_r1 : rI (enR r N f ki s rt P d t) 1 = rI r 1 := rfl
theorem en_r15 : rI (enR r N f ki s rt P d t) 15 = rI r 15 := rfl
theorem en_r18 : rI (enR r N f ki s rt P d t) 18 = rI r 18 := rfl
theorem en_r19 : rI (enR r N f ki s rt P d t) 19 = rI r 19 := rfl
theorem en_r22 : rI (enR r N f ki s rt P d t) 22 = rI r 22 := rfl
theorem en_r24 : rI (enR r N f ki s rt P d t) 24 = rI r 24 := rfl
theorem en_r25 : rI (enR r N f ki s rt P d t) 25 = rI r 25 := rfl
theorem en_r26 : rI (enR r N f ki s rt P d t) 26 = rI r 26 := rfl
theorem en_r28 : rI (enR r N f ki s rt P d t) 28 = rI r 28 := rfl
theorem en_r31 : rI (enR r N f ki s rt P d t) 31 = rI r 31 := rfl
theorem en_r32 : rI (enR r N f ki s rt P d t) 32 = rI r 32 := rfl
theorem en_r34 : rI (enR r N f ki s rt P d t) 34 = rI r 34 := rfl
theorem en_r35 : rI (enR r N f ki s rt P d t) 35 = rI r 35 := rfl
theorem en_r36 : rI (enR r N f ki s rt P d t) 36 = rI r 36 := rfl
theorem en_r37 : rI (enR r N f ki s rt P d t) 37 = rI r 37 := rfl
theorem en_r51 : rI (enR r N f ki s rt P d t) 51 = rI r 51 := rfl
theorem en_j33 : rJ (enR r N f ki s rt P d t) 33 = rJ r 33 := rfl
theorem en_j62 : rJ (enR r N f ki s rt P d t) 62 = rJ r 62 := rfl
theorem en_j63 : rJ (enR r N f ki s rt P d t) 63 = rJ r 63 := rfl
theorem en_s2 : sS (enR r N f ki s rt P d t) 2 = sS r 2 := rfl
theorem en_s38 : sS (enR r N f ki s rt P d t) 38 = sS r 38 := rfl
theorem en_s39 : sS (enR r N f ki s rt P d t) 39 = sS r 39 := rfl
theorem en_s40 : sS (enR r N f ki s rt P d t) 40 = sS r 40 := rfl
theorem en_s41 : sS (enR r N f ki s rt P d t) 41 = sS r 41 := rfl
theorem en_s42 : sS (enR r N f ki s rt P d t) 42 = sS r 42 := rfl
theorem en_s43 : sS (enR r N f ki s rt P d t) 43 = sS r 43 := rfl
theorem en_s44 : sS (enR r N f ki s rt P d t) 44 = sS r 44 := rfl
theorem en_s52 : sS (enR r N f ki s rt P d t) 52 = sS r 52 := rfl
theorem en_s30 : sS (enR r N f ki s rt P d t) 30 = nI N := rfl
theorem en_O : sO (enR r N f ki s rt P d t) = sO r := by unfold sO enR mkR clr mk0 uI uJ uS; rfl
theorem en_x0 (i : Nat) : ix (enR r N f ki s rt P d t) 0 i = ix r 0 i := rfl
theorem en_x24 (i : Nat) : ix (enR r N f ki s rt P d t) 24 i = ix r 24 i := rfl
theorem en_x25 (i : Nat) : ix (enR r N f ki s rt P d t) 25 i = ix r 25 i := rfl
theorem en_x31 (i : Nat) : ix (enR r N f ki s rt P d t) 31 i = ix r 31 i := rfl
theorem en_x32 (i : Nat) : ix (enR r N f ki s rt P d t) 32 i = ix r 32 i := rfl
theorem en_nF : nF (enR r N f ki s rt P d t) = nF r := rfl
theorem en_nP : nP (enR r N f ki s rt P d t) = nP r := rfl
end C22
set_option maxHeartbeats 8000000 in
theorem AT_enter {w w' : Wd} {x m f qa qt qw qe : Nat} {r r' : Rs} {ki : Int32} {s : Int64} {rt : Int32} {P : Int64} {d t : Int32} (hA : AT w x m r r') (hne : nE r' = nE r) (hn : nE r' < 300) (hf : f < nF r') (hk1 : 1 ≤ ki) (hk6 : ki ≤ 6) (hrt : 0 ≤ rt) (ho : EnO r' ki s rt d) (ht : t ≠ -1) (ha : Ac w qa d t)
    (t1 : wK w qt = 9 ∧ wI w 8 0 qt = ki ∧ wI w 8 1 qt = rt ∧ wJ w 8 2 qt = s ∧ wI w 8 3 qt = d ∧ wI w 8 4 qt = 2 ∧ wR w 8 5 qt = 0 ∧ wI w 8 7 qt = 0)
    (t2 : ∀ k, 1 ≤ k → k ≤ nE r' → paR r' k = 0 → wR w 9 3 (wA w x k) ≠ qt)
    (b1 : wK w qw = 10 ∧ wR w 9 0 qw = fA w x f ∧ wJ w 9 1 qw = P ∧ wR w 9 2 qw = qa ∧ wR w 9 3 qw = qt ∧ wR w 9 4 qw = 0 ∧ wI w 9 5 qw = 1 ∧ wR w 9 6 qw = 0 ∧ wR w 9 7 qw = 0 ∧ wR w 9 8 qw = qe ∧ wR w 9 9 qw = qe ∧ wR w 9 10 qw = qe)
    (e1 : wK w qe = 3 ∧ wI w 2 0 qe = nI (nE r' + 1) ∧ wR w 2 1 qe = qw ∧ wR w 2 2 qe = 0 ∧ wI w 2 3 qe = 0 ∧ wJ w 2 4 qe = (if ki = 3 then 0 else s) ∧ wI w 2 5 qe = 0 ∧ wR w 2 6 qe = 0 ∧ wR w 2 7 qe = 0 ∧ wR w 2 8 qe = 0 ∧ wJ w 2 11 qe = 0 ∧ wJ w 2 12 qe = 0)
    (hK : wK w' = wK w) (hL : wL w' = wL w) (hJ : wJ w' = wJ w) (hxI : xI w' = xI w) (hxJ : xJ w' = xJ w)
    (hI' : ∀ c k a, wI w' c k a = if c = 10 ∧ k = 4 ∧ a = x then nI (nE r' + 1) else wI w c k a)
    (hR : ∀ c k, ¬ (c = 9 ∧ (k = 11 ∨ k = 12)) → ¬ (c = 3 ∧ (k = 3 ∨ k = 4)) → wR w' c k = wR w c k)
    (hX : ∀ a i, xR w' a i = if a = wR w 10 1 x ∧ i = nE r' then qe else xR w a i)
    (l1 : Lk (wR w' 9 12) (wR w' 3 3 (fA w x f)) ((chF (enR r' (nE r' + 1) f ki s rt P d t) f).map (fun k => if k = nE r' + 1 then qw else wA w x k)))
    (l2 : Lk (wR w' 9 11) (wR w' 3 4 (fA w x f)) ((chF (enR r' (nE r' + 1) f ki s rt P d t) f).reverse.map (fun k => if k = nE r' + 1 then qw else wA w x k)))
    (l3 : ∀ g, g < nF r' → g ≠ f → Lk (wR w' 9 12) (wR w' 3 3 (fA w x g)) ((chF r' g).map (wA w x)) ∧ Lk (wR w' 9 11) (wR w' 3 4 (fA w x g)) ((chF r' g).reverse.map (wA w x))) :
    AT w' x m r (enR r' (nE r' + 1) f ki s rt P d t) := by
  obtain ⟨hM, hD, hC, ⟨hF, hE, hW, ⟨pl, hP⟩, hXX⟩, hI⟩ := hA
  have hRE := hI.2.2.2.1
  have hF40 := hI.1.1.2
  have hfr := hI.2.2.1.2.1 (nE r' + 1) (by omega)
  have hN : nE (enR r' (nE r' + 1) f ki s rt P d t) = nE r' + 1 := en_nE (by omega)
  have hwh := fun i => en_wh (r := r') (f := f) (ki := ki) (s := s) (rt := rt) (P := P) (d := d) (t := t) (N := nE r' + 1) (by omega) i
  have hfo := fun i => en_fo (r := r') (f := f) (ki := ki) (s := s) (rt := rt) (P := P) (d := d) (t := t) (nE r' + 1) (by omega) i
  obtain ⟨hv1, hv2⟩ := en_lvs (s := s) (P := P) (d := d) (t := t) hI hn hf hk1 hk6 hrt
  obtain ⟨hc1, -⟩ := en_ch (r := r') (f := f) (ki := ki) (s := s) (rt := rt) (P := P) (d := d) (t := t) hn (by omega)
  have I0 : ∀ c k a, c ≠ 10 → wI w' c k a = wI w c k a := fun c k a h => by rw [hI', if_neg (fun z => h z.1)]
  have R : ∀ c k, c ≠ 9 → c ≠ 3 → wR w' c k = wR w c k := fun c k h1 h2 => hR c k (fun z => h1 z.1) (fun z => h2 z.1)
  have R9 : ∀ k, k ≠ 11 → k ≠ 12 → wR w' 9 k = wR w 9 k := fun k h1 h2 => hR 9 k (by omega) (by omega)
  have hAc : ∀ a d' k', Ac w a d' k' → Ac w' a d' k' := fun a d' k' h => by unfold Ac at *; rw [hK, I0 0 0 a (by decide), I0 0 1 a (by decide)]; exact h
  have aE : ∀ k, 1 ≤ k → k ≤ nE r' → eA w' x k = eA w x k := fun k h1 h2 => by
    unfold eA; rw [R 10 1 (by decide) (by decide), hX, if_neg (fun z => by omega)]
  have aN : eA w' x (nE r' + 1) = qe := by
    unfold eA; rw [R 10 1 (by decide) (by decide), hX, if_pos ⟨rfl, by omega⟩]
  have bE : ∀ k, 1 ≤ k → k ≤ nE r' → wA w' x k = wA w x k := fun k h1 h2 => by unfold wA; rw [R 2 1 (by decide) (by decide), aE k h1 h2]
  have bN : wA w' x (nE r' + 1) = qw := by unfold wA; rw [R 2 1 (by decide) (by decide), aN]; exact e1.2.2.1
  have cF : ∀ g, fA w' x g = fA w x g := fun g => by
    unfold fA; rw [R 10 0 (by decide) (by decide), hX, if_neg (fun z => by have h1 := hC.1.2.1; rw [z.1, hC.1.2.2.2.1] at h1; cases h1)]
  have hz : wK w 0 = 0 := hD.1
  refine ⟨MO_mv (fun a _ => ⟨by rw [hK], by rw [hL]⟩) (fun k => by rw [R 11 k (by decide) (by decide)]) (fun k => I0 11 k m (by decide)) (by rw [hJ]) (fun k i _ _ => ⟨by rw [hxI], by rw [hxJ]⟩) hM, ?_, ?_, ⟨fun g hg => ?_, fun e h1 h2 => ?_, fun k h1 h2 h3 => ?_, ⟨pl, ?_⟩, ?_⟩, en_RI hI hn hf hk1 hk6 hrt ho⟩
  · unfold DI ca at *
    rw [hK, R 1 0 (by decide) (by decide), R 10 2 (by decide) (by decide)]
    exact ⟨hD.1, fun k a b => by rw [R 11 k (by decide) (by decide)]; exact hD.2.1 k a b, by rw [hN, hne]; omega⟩
  · unfold CS dnow at *
    rw [en_s2, en_s30, en_s38, en_s39, en_s40, en_s41, en_s42, en_s43, en_s44, en_s52, en_O, en_r51, hK, hL, hJ, hxI, R 10 0 (by decide) (by decide), R 10 1 (by decide) (by decide), R 10 2 (by decide) (by decide), R 10 8 (by decide) (by decide), R 1 0 (by decide) (by decide)]
    refine ⟨hC.1, ⟨?_, ?_, ?_, ?_, ?_, ?_, ?_, hC.2.1.2.2.2.2.2.2.2.1, ?_, ?_⟩, hC.2.2.1, hC.2.2.2.1, ?_, ?_, hC.2.2.2.2.2.2⟩
    · rw [hI', if_neg (by omega)]; exact hC.2.1.1
    · rw [hI', if_pos ⟨rfl, rfl, rfl⟩]
    · rw [hI', if_neg (by omega)]; exact hC.2.1.2.2.1
    · rw [hI', if_neg (by omega)]; exact hC.2.1.2.2.2.1
    · rw [hI', if_neg (by omega)]; exact hC.2.1.2.2.2.2.1
    · rw [hI', if_neg (by omega)]; exact hC.2.1.2.2.2.2.2.1
    · rw [hI', if_neg (by omega)]; exact hC.2.1.2.2.2.2.2.2.1
    · rw [hI', if_neg (by omega)]; exact hC.2.1.2.2.2.2.2.2.2.2.1
    · rw [hI', if_neg (by omega)]; exact hC.2.1.2.2.2.2.2.2.2.2.2
    · rw [hI', if_neg (by omega)]; exact hC.2.2.2.2.1
    · rw [hI', if_neg (by omega)]; exact hC.2.2.2.2.2.1
  · have h := hF g hg
    rw [cF, hK, hJ, I0 3 0 _ (by decide), I0 3 1 _ (by decide), en_r0, en_r1]
    refine ⟨h.1, h.2.1, h.2.2.1, h.2.2.2.1, ?_⟩
    by_cases hgf : g = f
    · subst hgf
      have e : ∀ y ∈ chF (enR r' (nE r' + 1) g ki s rt P d t) g, (fun k => if k = nE r' + 1 then qw else wA w x k) y = wA w' x y := fun y hy => by
        have hm := chN_mem _ hy
        rw [hN] at hm
        by_cases hy' : y = nE r' + 1
        · simp only [if_pos hy']; rw [hy', bN]
        · simp only [if_neg hy']; rw [bE y hm.1 (by omega)]
      rw [← map_c e, ← map_c (l := (chF (enR r' (nE r' + 1) g ki s rt P d t) g).reverse) (fun y hy => e y (List.mem_reverse.mp hy))]
      exact ⟨l1, l2⟩
    · have e : ∀ y ∈ chF r' g, wA w' x y = wA w x y := fun y hy => by have hm := chN_mem _ hy; exact bE y hm.1 hm.2.1
      rw [hc1 g hgf, map_c e, map_c (l := (chF r' g).reverse) (fun y hy => e y (List.mem_reverse.mp hy))]
      exact l3 g hg hgf
  · rw [hN] at h2
    by_cases he : e = nE r' + 1
    · subst he
      rw [aN, hK, hJ, I0 2 0 _ (by decide), I0 2 3 _ (by decide), I0 2 5 _ (by decide), R 2 1 (by decide) (by decide), R 2 2 (by decide) (by decide), hwh, if_pos rfl, bN, en_pa, if_pos rfl, if_pos rfl, en_7, if_pos rfl, en_8, if_pos rfl, en_fi, if_pos rfl, en_j62, en_j63]
      refine ⟨⟨e1.1, e1.2.1, e1.2.2.1, e1.2.2.2.1⟩, ⟨e1.2.2.2.2.1, e1.2.2.2.2.2.1, e1.2.2.2.2.2.2.1, e1.2.2.2.2.2.2.2.2.2.2.1.trans hfr.2.2.2.2.1.symm, e1.2.2.2.2.2.2.2.2.2.2.2.trans hfr.2.2.2.2.2.symm⟩, Or.inl ⟨by rw [R 2 6 (by decide) (by decide)]; exact e1.2.2.2.2.2.2.2.1, fun p hp => by rw [en_29, if_pos (by omega)]⟩⟩
    · have h2' : e ≤ nE r' := by omega
      have h := hE e h1 h2'
      have hq := hRE e h1 h2'
      rw [aE e h1 h2', hK, hJ, I0 2 0 _ (by decide), I0 2 3 _ (by decide), I0 2 5 _ (by decide), R 2 1 (by decide) (by decide), R 2 2 (by decide) (by decide), hwh, if_neg he, bE _ hq.2.1.1 (by have := hq.2.1.2.1; omega), en_pa, if_neg he, en_7, if_neg he, en_8, if_neg he, en_fi, if_neg he, en_j62, en_j63]
      refine ⟨⟨h.1.1, h.1.2.1, h.1.2.2.1, ?_⟩, h.2.1, ?_⟩
      · rw [h.1.2.2.2]
        by_cases hp : paR r' e = 0
        · rw [if_pos hp, if_pos hp]
        · rw [if_neg hp, if_neg hp, aE _ (by omega) (by have := hq.2.2.1.1; omega)]
      · unfold CL at *
        rw [R 2 6 (by decide) (by decide), hK, hL, hfo, if_neg he, en_x0, en_r28]
        rcases h.2.2 with ⟨z1, z2⟩ | ⟨z1, z2, z3, z4⟩
        · exact Or.inl ⟨z1, fun p hp => by rw [en_29, if_neg (by omega)]; exact z2 p hp⟩
        · refine Or.inr ⟨z1, z2, z3, fun p hp => ?_⟩
          have z5 := z4 p hp
          rw [en_29, if_neg (by omega), hX, if_neg (fun y => by rw [y.1, hC.1.2.2.2.1] at z2; cases z2)]
          exact ⟨fun y => hAc _ _ _ (z5.1 y), z5.2⟩
  · rw [hN] at h2
    by_cases he : k = nE r' + 1
    · subst he
      have j24 : ix r' 24 (nE r' + 1) = 0 := by unfold ix; rw [hfr.2.2.1]; rfl
      have j25 : ix r' 25 (nE r' + 1) = 0 := by unfold ix; rw [hfr.2.2.2.1]; rfl
      have i24 : ix (enR r' (nE r' + 1) f ki s rt P d t) 24 (nE r' + 1) = 0 := j24
      have i25 : ix (enR r' (nE r' + 1) f ki s rt P d t) 25 (nE r' + 1) = 0 := j25
      have i19 : rI (enR r' (nE r' + 1) f ki s rt P d t) 19 (nE r' + 1) = 0 := hfr.2.1
      have i18 : rI (enR r' (nE r' + 1) f ki s rt P d t) 18 (nE r' + 1) = 0 := hfr.1
      rw [bN, aN, hK, hJ, hfo, if_pos rfl, cF, I0 9 5 _ (by decide), R9 0 (by decide) (by decide), R9 2 (by decide) (by decide), R9 3 (by decide) (by decide), R9 4 (by decide) (by decide), R9 6 (by decide) (by decide), R9 7 (by decide) (by decide), R9 8 (by decide) (by decide), R9 9 (by decide) (by decide), R9 10 (by decide) (by decide), b1.2.2.2.2.1, I0 8 0 _ (by decide), I0 8 1 _ (by decide), I0 8 3 _ (by decide), I0 8 4 _ (by decide), I0 8 7 _ (by decide), R 8 5 (by decide) (by decide), i24, i25, i19, i18, hv1, R 2 8 (by decide) (by decide), R 2 7 (by decide) (by decide)]
      simp only [en_r15, en_r18, en_r19, en_r22, en_r26, en_3, en_10, en_11, en_12, en_13, en_14, en_16, en_17, en_21, en_23, if_true]
      refine ⟨⟨b1.1, b1.2.1, b1.2.2.1, b1.2.2.2.2.2.2.2.2.2.1, by rw [b1.2.2.2.2.2.2.1]; rfl⟩, ⟨ht, by rw [b1.2.2.2.1]; exact hAc _ _ _ ha, ⟨fun _ => b1.2.2.2.2.2.1, fun q => absurd rfl q⟩⟩, ⟨t1.1, t1.2.1, t1.2.2.1, t1.2.2.2.1, t1.2.2.2.2.1, t1.2.2.2.2.2.1, ⟨fun _ => t1.2.2.2.2.2.2.1, fun q => absurd rfl q⟩, fun q => absurd rfl q, fun _ => t1.2.2.2.2.2.2.2⟩, ⟨by rw [b1.2.2.2.2.2.2.2.1]; try rfl, fun _ => ⟨fun _ => b1.2.2.2.2.2.2.2.2.1, fun q => absurd rfl q⟩⟩, ?_, ?_⟩
      · show Lk (wR w 2 8) (wR w 9 9 qw) [eA w' x (nE r' + 1)]
        rw [aN, b1.2.2.2.2.2.2.2.2.2.2.1]
        exact ⟨rfl, K_nz hz e1.1, e1.2.2.2.2.2.2.2.2.2.1⟩
      · show Lk (wR w 2 7) (wR w 9 10 qw) [eA w' x (nE r' + 1)]
        rw [aN, b1.2.2.2.2.2.2.2.2.2.2.2]
        exact ⟨rfl, K_nz hz e1.1, e1.2.2.2.2.2.2.2.2.1⟩
    · have h2' : k ≤ nE r' := by omega
      rw [en_pa, if_neg he] at h3
      have h := hW k h1 h2' h3
      have hq := hRE k h1 h2'
      have i24 : ix (enR r' (nE r' + 1) f ki s rt P d t) 24 k = ix r' 24 k := rfl
      have i25 : ix (enR r' (nE r' + 1) f ki s rt P d t) 25 k = ix r' 25 k := rfl
      have el : ∀ y ∈ lvs (fiR r') k, eA w' x y = eA w x y := fun y hy => by
        have := lvs_mem (HT_of hI.1 hRE) k h1 h2' y hy
        exact aE y (by omega) this.2.2.2
      rw [bE k h1 h2', aE k h1 h2', hK, hJ, hfo, if_neg he, cF, I0 9 5 _ (by decide), R9 0 (by decide) (by decide), R9 2 (by decide) (by decide), R9 3 (by decide) (by decide), R9 4 (by decide) (by decide), R9 6 (by decide) (by decide), R9 7 (by decide) (by decide), R9 8 (by decide) (by decide), R9 9 (by decide) (by decide), R9 10 (by decide) (by decide), I0 8 0 _ (by decide), I0 8 1 _ (by decide), I0 8 3 _ (by decide), I0 8 4 _ (by decide), I0 8 6 _ (by decide), I0 8 7 _ (by decide), R 8 5 (by decide) (by decide), i24, i25, hv2 k h1 h2', R 2 8 (by decide) (by decide), R 2 7 (by decide) (by decide), map_c el, map_c (l := (lvs (fiR r') k).reverse) (fun y hy => el y (List.mem_reverse.mp hy))]
      simp only [en_r15, en_r18, en_r19, en_r22, en_r26, en_3, en_10, en_11, en_12, en_13, en_14, en_16, en_17, en_20, en_21, en_23, if_neg he]
      refine ⟨h.1, ⟨h.2.1.1, hAc _ _ _ h.2.1.2.1, hAc _ _ _ h.2.1.2.2⟩, ⟨h.2.2.1.1, h.2.2.1.2.1, h.2.2.1.2.2.1, h.2.2.1.2.2.2.1, h.2.2.1.2.2.2.2.1, h.2.2.1.2.2.2.2.2.1, hAc _ _ _ h.2.2.1.2.2.2.2.2.2.1, h.2.2.1.2.2.2.2.2.2.2.1, h.2.2.1.2.2.2.2.2.2.2.2⟩, ⟨?_, fun h6 => ⟨(h.2.2.2.1.2 h6).1, fun h7 => ?_⟩⟩, h.2.2.2.2⟩
      · rw [h.2.2.2.1.1]
        by_cases h0 : ix r' 24 k + ix r' 25 k = 0
        · rw [if_pos h0, if_pos h0]
        · rw [if_neg h0, if_neg h0, bE _ (by omega) (by have := hq.2.2.2.2; omega)]
      · have h8 := (h.2.2.2.1.2 h6).2 h7
        rw [en_27, if_neg (by have := hq.2.2.2.2.1; omega)]
        exact ⟨h8.1, hAc _ _ _ h8.2⟩
  · unfold CP at *
    rw [R 5 6 (by decide) (by decide), R 10 6 (by decide) (by decide), R 10 7 (by decide) (by decide), en_nP]
    refine ⟨hP.1, hP.2.1, hP.2.2.1, fun q hq => ?_⟩
    have h := hP.2.2.2 q hq
    have hp := hI.2.2.2.2.1 (q + 1) (by omega) (by omega)
    rw [hK, hJ, I0 5 0 _ (by decide), R 5 1 (by decide) (by decide), R 5 2 (by decide) (by decide), R 5 4 (by decide) (by decide), R 5 5 (by decide) (by decide), en_x31, en_x32, en_j33, en_r34, en_r35, en_r36, en_r37]
    refine ⟨h.1, h.2.1, ?_, ?_, h.2.2.2.2.1, h.2.2.2.2.2.1, hAc _ _ _ h.2.2.2.2.2.2.1, hAc _ _ _ h.2.2.2.2.2.2.2⟩
    · rw [aE _ hp.2.1 hp.2.2.1]; exact h.2.2.1
    · rw [aE _ hp.2.2.2.2.1 hp.2.2.2.2.2]; exact h.2.2.2.1
  · refine ⟨fun k k' a b c a' b' c' h => ?_, fun e e' a b a' b' h0 h => ?_⟩
    · rw [hN] at b b'
      rw [en_pa] at c c'
      rw [R9 3 (by decide) (by decide)] at h
      by_cases hk : k = nE r' + 1
      · by_cases hk' : k' = nE r' + 1
        · rw [hk, hk']
        · rw [if_neg hk'] at c'
          rw [hk, bN, bE k' a' (by omega), b1.2.2.2.2.1] at h
          exact absurd h.symm (t2 k' a' (by omega) c')
      · rw [if_neg hk] at c
        by_cases hk' : k' = nE r' + 1
        · rw [hk', bN, bE k a (by omega), b1.2.2.2.2.1] at h
          exact absurd h (t2 k a (by omega) c)
        · rw [if_neg hk'] at c'
          rw [bE k a (by omega), bE k' a' (by omega)] at h
          exact hXX.1 k k' a (by omega) c a' (by omega) c' h
    · rw [hN] at b b'
      rw [R 2 6 (by decide) (by decide)] at h h0
      by_cases hk : e = nE r' + 1
      · rw [hk, aN, e1.2.2.2.2.2.2.2.1] at h0; exact absurd rfl h0
      · by_cases hk' : e' = nE r' + 1
        · rw [h, hk', aN, e1.2.2.2.2.2.2.2.1] at h0; exact absurd rfl h0
        · rw [aE e a (by omega), aE e' a' (by omega)] at h
          rw [aE e a (by omega)] at h0
          exact hXX.2 e e' a (by omega) a' (by omega) h0 h
