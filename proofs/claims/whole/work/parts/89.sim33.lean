/-! ===== split, hand: the class's new world ===== -/
def fl2 (N n : Nat) (y : Nat) : List Nat := if y = n then [N, N + 1] else [y]
def gl2 (w : Wd) (x N q1 q2 : Nat) (k : Nat) : Nat := if k = N then q1 else if k = N + 1 then q2 else eA w x k
set_option maxHeartbeats 8000000 in
theorem AT_part {w w' : Wd} {x m n q1 q2 : Nat} {r r' : Rs} {s : Int64} {ow : Int32} (hA : AT w x m r r') (hne : nE r' = nE r) (h1 : 1 ≤ n) (h2 : n ≤ nE r') (hn : nE r' ≤ 298) (hlf : fiR r' n = 0) (hk : rI r' 3 n ≠ 6) (hk4 : rI r' 3 n ≠ 4) (hs : 0 ≤ s ∧ s ≤ rJ r' 8 n)
    (e1 : wK w q1 = 3 ∧ wI w 2 0 q1 = nI (nE r' + 1) ∧ wR w 2 1 q1 = wA w x (whR r' n) ∧ wR w 2 2 q1 = eA w x n ∧ wI w 2 3 q1 = rI r' 7 n ∧ wJ w 2 4 q1 = s ∧ wI w 2 5 q1 = 0 ∧ wR w 2 6 q1 = 0 ∧ wJ w 2 11 q1 = 0 ∧ wJ w 2 12 q1 = 0)
    (e2 : wK w q2 = 3 ∧ wI w 2 0 q2 = nI (nE r' + 1 + 1) ∧ wR w 2 1 q2 = wA w x (whR r' n) ∧ wR w 2 2 q2 = eA w x n ∧ wI w 2 3 q2 = ow ∧ wJ w 2 4 q2 = rJ r' 8 n - s ∧ wI w 2 5 q2 = 0 ∧ wR w 2 6 q2 = 0 ∧ wJ w 2 11 q2 = 0 ∧ wJ w 2 12 q2 = 0)
    (n1 : q1 ≠ eA w x n) (n2 : q2 ≠ eA w x n)
    (hK : wK w' = wK w) (hL : wL w' = wL w) (hJ : wJ w' = wJ w) (hxI : xI w' = xI w) (hxJ : xJ w' = xJ w)
    (hI' : ∀ c k a, wI w' c k a = if c = 10 ∧ k = 4 ∧ a = x then nI (nE r' + 1 + 1) else if c = 2 ∧ k = 5 ∧ a = eA w x n then 1 else wI w c k a)
    (hR : ∀ c k, ¬ (c = 2 ∧ (k = 7 ∨ k = 8)) → ¬ (c = 9 ∧ (k = 9 ∨ k = 10)) → wR w' c k = wR w c k)
    (hX : ∀ a i, xR w' a i = if a = wR w 10 1 x ∧ i = nE r' + 1 then q2 else if a = wR w 10 1 x ∧ i = nE r' then q1 else xR w a i)
    (lC : ∀ k, 1 ≤ k → k ≤ nE r' → paR r' k = 0 → Lk (wR w' 2 8) (wR w' 9 9 (wA w x k)) (((lvs (fiR r') k).flatMap (fl2 (nE r' + 1) n)).map (gl2 w x (nE r' + 1) q1 q2)) ∧ Lk (wR w' 2 7) (wR w' 9 10 (wA w x k)) (((lvs (fiR r') k).flatMap (fl2 (nE r' + 1) n)).reverse.map (gl2 w x (nE r' + 1) q1 q2))) :
    AT w' x m r (ptR r' (nE r' + 1) n s ow) := by
  obtain ⟨hM, hD, hC, ⟨hF, hE, hW, ⟨pl, hP⟩, hXX⟩, hI⟩ := hA
  have hRE := hI.2.2.2.1
  have hF40 := hI.1.1.2
  have hIn := hRE n h1 h2
  have hwn := hIn.2.1.2.1
  have hfn := hIn.2.2.2.1.1
  have hf1 := hI.2.2.1.2.1 (nE r' + 1) (by omega)
  have hf2 := hI.2.2.1.2.1 (nE r' + 1 + 1) (by omega)
  have hN : nE (ptR r' (nE r' + 1) n s ow) = nE r' + 1 + 1 := pt_nE _ _ _ _ _ (by omega)
  have hpa := pt_pa r' (nE r' + 1) n s ow (by omega)
  have hfi := pt_fi r' (nE r' + 1) n s ow (by omega)
  have hwh := pt_wh r' (nE r' + 1) n s ow (by omega)
  have hfo := pt_fo r' (nE r' + 1) n s ow (by omega)
  have hv := pt_lvs (s := s) (ow := ow) hI h1 h2 hn hlf hk
  have I0 : ∀ c k a, c ≠ 10 → ¬ (c = 2 ∧ k = 5) → wI w' c k a = wI w c k a := fun c k a h h' => by rw [hI', if_neg (fun z => h z.1), if_neg (fun z => h' ⟨z.1, z.2.1⟩)]
  have R : ∀ c k, c ≠ 9 → c ≠ 2 → wR w' c k = wR w c k := fun c k h1 h2 => hR c k (fun z => h2 z.1) (fun z => h1 z.1)
  have R9 : ∀ k, k ≠ 9 → k ≠ 10 → wR w' 9 k = wR w 9 k := fun k h1 h2 => hR 9 k (by omega) (by omega)
  have R2 : ∀ k, k ≠ 7 → k ≠ 8 → wR w' 2 k = wR w 2 k := fun k h1 h2 => hR 2 k (by omega) (by omega)
  have hAc : ∀ a d' k', Ac w a d' k' → Ac w' a d' k' := fun a d' k' h => by unfold Ac at *; rw [hK, I0 0 0 a (by decide) (by decide), I0 0 1 a (by decide) (by decide)]; exact h
  have aE : ∀ k, 1 ≤ k → k ≤ nE r' → eA w' x k = eA w x k := fun k h1 h2 => by
    unfold eA; rw [R 10 1 (by decide) (by decide), hX, if_neg (fun z => by omega), if_neg (fun z => by omega)]
  have aN1 : eA w' x (nE r' + 1) = q1 := by
    unfold eA; rw [R 10 1 (by decide) (by decide), hX, if_neg (fun z => by omega), if_pos ⟨rfl, by omega⟩]
  have aN2 : eA w' x (nE r' + 1 + 1) = q2 := by
    unfold eA; rw [R 10 1 (by decide) (by decide), hX, if_pos ⟨rfl, by omega⟩]
  have bE : ∀ k, 1 ≤ k → k ≤ nE r' → wA w' x k = wA w x k := fun k h1 h2 => by unfold wA; rw [R2 1 (by decide) (by decide), aE k h1 h2]
  have cF : ∀ g, fA w' x g = fA w x g := fun g => by
    have hne : wR w 10 0 x ≠ wR w 10 1 x := fun z => by have h1 := hC.1.2.1; rw [z, hC.1.2.2.2.1] at h1; cases h1
    unfold fA; rw [R 10 0 (by decide) (by decide), hX, if_neg (fun z => hne z.1), if_neg (fun z => hne z.1)]
  have hz : wK w 0 = 0 := hD.1
  have hF5 : ∀ e, 1 ≤ e → e ≤ nE r' → e ≠ n → eA w x e ≠ eA w x n := fun e a b c z => c (eA_inj hI.1 hE a b h1 h2 z)
  refine ⟨MO_mv (fun a _ => ⟨by rw [hK], by rw [hL]⟩) (fun k => by rw [R 11 k (by decide) (by decide)]) (fun k => I0 11 k m (by decide) (by omega)) (by rw [hJ]) (fun k i _ _ => ⟨by rw [hxI], by rw [hxJ]⟩) hM, ?_, ?_, ⟨fun g hg => ?_, fun e a b => ?_, fun k a b c => ?_, ⟨pl, ?_⟩, ?_⟩, pt_RI hI h1 h2 hn hlf hk hk4 hs⟩
  · unfold DI ca at *
    rw [hK, R 1 0 (by decide) (by decide), R 10 2 (by decide) (by decide)]
    exact ⟨hD.1, fun k a b => by rw [R 11 k (by decide) (by decide)]; exact hD.2.1 k a b, by rw [hN, hne]; omega⟩
  · unfold CS dnow at *
    have J : ∀ k, k ≠ 4 → wI w' 10 k x = wI w 10 k x := fun k hk => by rw [hI', if_neg (by omega), if_neg (by omega)]
    rw [pt_s2, pt_s30, pt_s38, pt_s39, pt_s40, pt_s41, pt_s42, pt_s43, pt_s44, pt_s52, pt_O, pt_r51, hK, hL, hJ, hxI, R 10 0 (by decide) (by decide), R 10 1 (by decide) (by decide), R 10 2 (by decide) (by decide), R 10 8 (by decide) (by decide), R 1 0 (by decide) (by decide), J 3 (by decide), J 5 (by decide), J 9 (by decide), J 10 (by decide), J 12 (by decide), J 13 (by decide), I0 4 0 _ (by decide) (by decide), I0 4 1 _ (by decide) (by decide), I0 1 1 _ (by decide) (by decide), I0 1 2 _ (by decide) (by decide)]
    exact ⟨hC.1, ⟨hC.2.1.1, by rw [hI', if_pos ⟨rfl, rfl, rfl⟩], hC.2.1.2.2⟩, hC.2.2⟩
  · have h := hF g hg
    have e : ∀ y ∈ chF r' g, wA w' x y = wA w x y := fun y hy => by have hm := chN_mem _ hy; exact bE y hm.1 hm.2.1
    rw [cF, hK, hJ, I0 3 0 _ (by decide) (by decide), I0 3 1 _ (by decide) (by decide), pt_r0, pt_r1, pt_ch h1 h2 hn (by omega), R9 12 (by decide) (by decide), R9 11 (by decide) (by decide), R 3 3 (by decide) (by decide), R 3 4 (by decide) (by decide), map_c e, map_c (l := (chF r' g).reverse) (fun y hy => e y (List.mem_reverse.mp hy))]
    exact h
  · rw [hN] at b
    have five : ∀ q, q ≠ eA w x n → wI w' 2 5 q = wI w 2 5 q := fun q hq => by rw [hI', if_neg (by omega), if_neg (fun z => hq z.2.2)]
    by_cases x2 : e = nE r' + 1 + 1
    · subst x2
      rw [aN2, hK, hJ, I0 2 0 _ (by decide) (by decide), I0 2 3 _ (by decide) (by decide), five _ n2, R2 1 (by decide) (by decide), R2 2 (by decide) (by decide), hwh, if_pos rfl, bE _ hIn.2.1.1 (by omega), hpa, if_pos rfl, if_neg (by omega), aE n h1 h2, pt_7, if_pos rfl, pt_8, if_pos rfl, hfi, if_neg (by omega), if_pos rfl, pt_j62, pt_j63]
      exact ⟨⟨e2.1, e2.2.1, e2.2.2.1, e2.2.2.2.1⟩, ⟨e2.2.2.2.2.1, e2.2.2.2.2.2.1, e2.2.2.2.2.2.2.1, e2.2.2.2.2.2.2.2.2.1.trans hf2.2.2.2.2.1.symm, e2.2.2.2.2.2.2.2.2.2.trans hf2.2.2.2.2.2.symm⟩, Or.inl ⟨by rw [R2 6 (by decide) (by decide)]; exact e2.2.2.2.2.2.2.2.1, fun p hp => by rw [pt_29, if_pos (by omega)]⟩⟩
    · by_cases x1 : e = nE r' + 1
      · subst x1
        rw [aN1, hK, hJ, I0 2 0 _ (by decide) (by decide), I0 2 3 _ (by decide) (by decide), five _ n1, R2 1 (by decide) (by decide), R2 2 (by decide) (by decide), hwh, if_neg (show ¬ nE r' + 1 = nE r' + 1 + 1 by omega), if_pos rfl, bE _ hIn.2.1.1 (by omega), hpa, if_neg (show ¬ nE r' + 1 = nE r' + 1 + 1 by omega), if_pos rfl, if_neg (show ¬ n = 0 by omega), aE n h1 h2, pt_7, if_neg (show ¬ nE r' + 1 = nE r' + 1 + 1 by omega), if_pos rfl, pt_8, if_neg (show ¬ nE r' + 1 = nE r' + 1 + 1 by omega), if_pos rfl, hfi, if_neg (show ¬ nE r' + 1 = n by omega), if_neg (show ¬ nE r' + 1 = nE r' + 1 + 1 by omega), if_pos rfl, pt_j62, pt_j63]
        exact ⟨⟨e1.1, e1.2.1, e1.2.2.1, e1.2.2.2.1⟩, ⟨e1.2.2.2.2.1, e1.2.2.2.2.2.1, e1.2.2.2.2.2.2.1, e1.2.2.2.2.2.2.2.2.1.trans hf1.2.2.2.2.1.symm, e1.2.2.2.2.2.2.2.2.2.trans hf1.2.2.2.2.2.symm⟩, Or.inl ⟨by rw [R2 6 (by decide) (by decide)]; exact e1.2.2.2.2.2.2.2.1, fun p hp => by rw [pt_29, if_neg (by omega), if_pos (by omega)]⟩⟩
      · have b' : e ≤ nE r' := by omega
        have h := hE e a b'
        have hq := hRE e a b'
        rw [aE e a b', hK, hJ, I0 2 0 _ (by decide) (by decide), I0 2 3 _ (by decide) (by decide), R2 1 (by decide) (by decide), R2 2 (by decide) (by decide), hwh, if_neg x2, if_neg x1, bE _ hq.2.1.1 (by have := hq.2.1.2.1; omega), hpa, if_neg x2, if_neg x1, pt_7, if_neg x2, if_neg x1, pt_8, if_neg x2, if_neg x1, pt_j62, pt_j63]
        refine ⟨⟨h.1.1, h.1.2.1, h.1.2.2.1, ?_⟩, ⟨h.2.1.1, h.2.1.2.1, ?_, h.2.1.2.2.2⟩, ?_⟩
        · rw [h.1.2.2.2]
          by_cases hp : paR r' e = 0
          · rw [if_pos hp, if_pos hp]
          · rw [if_neg hp, if_neg hp, aE _ (by omega) (by have := hq.2.2.1.1; omega)]
        · by_cases hen : e = n
          · rw [hI', if_neg (by omega), if_pos ⟨rfl, rfl, by rw [hen]⟩, hfi, if_pos hen]
            have : nE r' + 1 ≠ 0 := by omega
            simp [bI]
          · rw [five _ (hF5 e a b' hen), hfi, if_neg hen, if_neg x2, if_neg x1]; exact h.2.1.2.2.1
        · unfold CL at *
          rw [R2 6 (by decide) (by decide), hK, hL, hfo, if_neg x2, if_neg x1, pt_x0, pt_r28]
          rcases h.2.2 with ⟨z1, z2⟩ | ⟨z1, z2, z3, z4⟩
          · exact Or.inl ⟨z1, fun p hp => by rw [pt_29, if_neg (by omega), if_neg (by omega)]; exact z2 p hp⟩
          · refine Or.inr ⟨z1, z2, z3, fun p hp => ?_⟩
            have z5 := z4 p hp
            have hne : wR w 2 6 (eA w x e) ≠ wR w 10 1 x := fun y => by rw [y, hC.1.2.2.2.1] at z2; cases z2
            rw [pt_29, if_neg (by omega), if_neg (by omega), hX, if_neg (fun y => hne y.1), if_neg (fun y => hne y.1)]
            exact ⟨fun y => hAc _ _ _ (z5.1 y), z5.2⟩
  · rw [hN] at b
    rw [hpa] at c
    by_cases x2 : k = nE r' + 1 + 1
    · rw [if_pos x2] at c; omega
    by_cases x1 : k = nE r' + 1
    · rw [if_neg x2, if_pos x1] at c; omega
    rw [if_neg x2, if_neg x1] at c
    have b' : k ≤ nE r' := by omega
    have h := hW k a b' c
    have hq := hRE k a b'
    have el : ∀ y ∈ (lvs (fiR r') k).flatMap (fl2 (nE r' + 1) n), eA w' x y = gl2 w x (nE r' + 1) q1 q2 y := fun y hy => by
      obtain ⟨z, hz1, hz2⟩ := List.mem_flatMap.mp hy
      have := lvs_mem (HT_of hI.1 hRE) k a b' z hz1
      unfold gl2
      by_cases y1 : y = nE r' + 1
      · rw [if_pos y1, y1]; exact aN1
      · by_cases y2 : y = nE r' + 1 + 1
        · rw [if_neg y1, if_pos y2, y2]; exact aN2
        · rw [if_neg y1, if_neg y2]
          unfold fl2 at hz2
          split at hz2
          · simp at hz2; omega
          · have hyz : y = z := by simpa using hz2
            rw [hyz]; exact aE z (by omega) this.2.2.2
    have hv' : lvs (fiR (ptR r' (nE r' + 1) n s ow)) k = (lvs (fiR r') k).flatMap (fl2 (nE r' + 1) n) := hv k a b'
    rw [bE k a b', aE k a b', hK, hJ, hfo, if_neg x2, if_neg x1, cF, I0 9 5 _ (by decide) (by decide), R9 0 (by decide) (by decide), R9 2 (by decide) (by decide), R9 3 (by decide) (by decide), R9 4 (by decide) (by decide), R9 6 (by decide) (by decide), R9 7 (by decide) (by decide), R9 8 (by decide) (by decide), I0 8 0 _ (by decide) (by decide), I0 8 1 _ (by decide) (by decide), I0 8 3 _ (by decide) (by decide), I0 8 4 _ (by decide) (by decide), I0 8 6 _ (by decide) (by decide), I0 8 7 _ (by decide) (by decide), R 8 5 (by decide) (by decide), pt_x24, pt_x25, hv', map_c el, map_c (l := ((lvs (fiR r') k).flatMap (fl2 (nE r' + 1) n)).reverse) (fun y hy => el y (List.mem_reverse.mp hy))]
    simp only [pt_r11, pt_r13, pt_r14, pt_r15, pt_r17, pt_r18, pt_r19, pt_r20, pt_r21, pt_r22, pt_r26, pt_3, pt_j10, pt_j12, pt_16, pt_23, if_neg x1, if_neg x2]
    refine ⟨h.1, ⟨h.2.1.1, hAc _ _ _ h.2.1.2.1, hAc _ _ _ h.2.1.2.2⟩, ⟨h.2.2.1.1, h.2.2.1.2.1, h.2.2.1.2.2.1, h.2.2.1.2.2.2.1, h.2.2.1.2.2.2.2.1, h.2.2.1.2.2.2.2.2.1, hAc _ _ _ h.2.2.1.2.2.2.2.2.2.1, h.2.2.1.2.2.2.2.2.2.2.1, h.2.2.1.2.2.2.2.2.2.2.2⟩, ⟨?_, fun h6 => ⟨(h.2.2.2.1.2 h6).1, fun h7 => ?_⟩⟩, lC k a b' c⟩
    · rw [h.2.2.2.1.1]
      by_cases h0 : ix r' 24 k + ix r' 25 k = 0
      · rw [if_pos h0, if_pos h0]
      · rw [if_neg h0, if_neg h0, bE _ (by omega) (by have := hq.2.2.2.2; omega)]
    · have h8 := (h.2.2.2.1.2 h6).2 h7
      rw [pt_27, if_neg (by have := hq.2.2.2.2.1; omega), if_neg (by have := hq.2.2.2.2.1; omega)]
      exact ⟨h8.1, hAc _ _ _ h8.2⟩
  · unfold CP at *
    rw [R 5 6 (by decide) (by decide), R 10 6 (by decide) (by decide), R 10 7 (by decide) (by decide), pt_nP]
    refine ⟨hP.1, hP.2.1, hP.2.2.1, fun q hq => ?_⟩
    have h := hP.2.2.2 q hq
    have hp := hI.2.2.2.2.1 (q + 1) (by omega) (by omega)
    rw [hK, hJ, I0 5 0 _ (by decide) (by decide), R 5 1 (by decide) (by decide), R 5 2 (by decide) (by decide), R 5 4 (by decide) (by decide), R 5 5 (by decide) (by decide), pt_x31, pt_x32, pt_j33, pt_r34, pt_r35, pt_r36, pt_r37]
    refine ⟨h.1, h.2.1, ?_, ?_, h.2.2.2.2.1, h.2.2.2.2.2.1, hAc _ _ _ h.2.2.2.2.2.2.1, hAc _ _ _ h.2.2.2.2.2.2.2⟩
    · rw [aE _ hp.2.1 hp.2.2.1]; exact h.2.2.1
    · rw [aE _ hp.2.2.2.2.1 hp.2.2.2.2.2]; exact h.2.2.2.1
  · have old : ∀ k, 1 ≤ k → k ≤ nE r' + 1 + 1 → paR (ptR r' (nE r' + 1) n s ow) k = 0 → k ≤ nE r' ∧ paR r' k = 0 := fun k a b c => by
      rw [hpa] at c
      by_cases x2 : k = nE r' + 1 + 1
      · rw [if_pos x2] at c; omega
      by_cases x1 : k = nE r' + 1
      · rw [if_neg x2, if_pos x1] at c; omega
      rw [if_neg x2, if_neg x1] at c
      exact ⟨by omega, c⟩
    refine ⟨fun k k' a b c a' b' c' h => ?_, fun e e' a b a' b' h0 h => ?_⟩
    · rw [hN] at b b'
      obtain ⟨b, c⟩ := old k a b c
      obtain ⟨b', c'⟩ := old k' a' b' c'
      rw [R9 3 (by decide) (by decide), bE k a b, bE k' a' b'] at h
      exact hXX.1 k k' a b c a' b' c' h
    · rw [hN] at b b'
      rw [R2 6 (by decide) (by decide)] at h h0
      have no : ∀ e, 1 ≤ e → e ≤ nE r' + 1 + 1 → wR w 2 6 (eA w' x e) ≠ 0 → e ≤ nE r' := fun e a b h0 => by
        by_cases x2 : e = nE r' + 1 + 1
        · rw [x2, aN2, e2.2.2.2.2.2.2.2.1] at h0; exact absurd rfl h0
        by_cases x1 : e = nE r' + 1
        · rw [x1, aN1, e1.2.2.2.2.2.2.2.1] at h0; exact absurd rfl h0
        omega
      have b1 := no e a b h0
      have b2 := no e' a' b' (by rw [← h]; exact h0)
      rw [aE e a b1, aE e' a' b2] at h
      rw [aE e a b1] at h0
      exact hXX.2 e e' a b1 a' b2 h0 h
