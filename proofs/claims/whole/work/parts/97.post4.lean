/-! ===== post ===== -/
theorem Fs_eq {r : Rs} {g : Nat} (hI : RI r) : Fs r g (nE r) = Fs r g 100 := by
  have hN := hI.1.2.1.2
  have hN2 := hI.1.2.2.2
  have h1 := Fs_end (r := r) (g := g) (List.range' 1 (nE r)) (fun q hq => by
    have := (post_r hI hq).1
    rw [List.mem_range'_1]; omega) (by rw [List.length_range']; omega) (100 + nP r) (by omega)
  have h2 := Fs_end (r := r) (g := g) ((pos r).map (gA r)) (fun q hq => List.mem_map.mpr ⟨q, hq, rfl⟩) (by simp [pos]; omega)
  have hl : ((pos r).map (gA r)).length = nP r := by simp [pos]
  rw [hl] at h2
  rw [List.length_range'] at h1
  have a := h2 (nE r + 100) (by omega)
  have b := h2 (100 - nP r) (by omega)
  rw [show nP r + (nE r + 100) = nE r + (100 + nP r) by omega, h1] at a
  rw [show nP r + (100 - nP r) = 100 by omega] at b
  rw [a, b]
set_option maxHeartbeats 2000000 in
theorem AT_ring {w w' : Wd} {x m : Nat} {r r' : Rs} (hA : AT w x m r r') (hg : Rg (wR w 10 2 x) w w') (L : List Nat) (hL : L.length ≤ 101) (h11 : wI w' 1 1 (wR w 10 2 x) = nI L.length) (h12 : wI w' 1 2 (wR w 10 2 x) = wI w 1 2 (wR w 10 2 x) + 1) (hx : ∀ j, j < L.length → xI w' (ca w x) j = nI (L.getD j 0)) : AT w' x m r (uS (rg2 r' L) 44 (sS r' 44 + 1)) := by
  obtain ⟨hM, hD, hC, h4, hI⟩ := hA
  have i0 : ∀ c, c ≠ 1 → wI w' c = wI w c := fun c hc => by funext k a; exact hg.2.1 c k a (fun z => hc z.1)
  have e1 : eA w' x = eA w x := by funext e; unfold eA; rw [hg.1.2.1, hg.1.2.2.2.2.2]
  have e2 : wA w' x = wA w x := by funext e; unfold wA; rw [hg.1.2.1, e1]
  have e3 : fA w' x = fA w x := by funext e; unfold fA; rw [hg.1.2.1, hg.1.2.2.2.2.2]
  have h4' : C4 w' x r' := by
    unfold C4 CF CE CW CP CX CL Ac at *
    simp only [e1, e2, e3, hg.1.1, hg.1.2.1, hg.1.2.2.1, hg.1.2.2.2.1, hg.1.2.2.2.2.2, i0 0 (by decide), i0 2 (by decide), i0 3 (by decide), i0 5 (by decide), i0 8 (by decide), i0 9 (by decide)]
    exact h4
  refine ⟨MO_mv (fun a _ => ⟨by rw [hg.1.1], by rw [hg.1.2.2.1]⟩) (fun k => by rw [hg.1.2.1]) (fun k => by rw [i0 11 (by decide)]) (by rw [hg.1.2.2.2.1]) (fun k i k1 k2 => ⟨hg.2.2 _ i (hD.2.1 k k1 k2), by rw [hg.1.2.2.2.2.1]⟩) hM, ?_, ?_, ⟨CF_R (w := w') (r := r') rfl rfl rfl rfl rfl rfl rfl rfl rfl rfl rfl rfl rfl rfl rfl h4'.1, h4'.2.1, h4'.2.2.1, h4'.2.2.2.1, h4'.2.2.2.2⟩, hI⟩
  · unfold DI ca at *
    rw [hg.1.1, hg.1.2.1]; exact hD
  · have hx' : ∀ j, j < L.length → xI w' (wR w 1 0 (wR w 10 2 x)) j = nI (L.getD j 0) := hx
    refine ⟨?_, ?_, ?_⟩
    · rw [hg.1.1, hg.1.2.1, hg.1.2.2.1]; exact hC.1
    · rw [hg.1.2.1, hg.1.2.2.2.1, i0 10 (by decide), i0 4 (by decide)]; exact hC.2.1
    · rw [hg.1.1, hg.1.2.1, hg.1.2.2.1, h11, h12]
      refine ⟨hC.2.2.1, hC.2.2.2.1, ?_, rfl, L.length, rfl, hL, fun i hi => ?_⟩
      · rw [hC.2.2.2.2.1]; rfl
      · rw [hx' i hi]
        show _ = (if 51 = 51 ∧ i < L.length then nI (L.getD i 0) else rI r' 51 i)
        rw [if_pos ⟨rfl, hi⟩]
def psR (r : Rs) (N a b : Nat) (lim : Int64) (d t : Int32) : Rs := uI (uI (uI (uJ (uI (uI (uS r 38 (nI N)) 31 N (nI a)) 32 N (nI b)) 33 N lim) 34 N d) 35 N t) 37 N (-1)
theorem ps_nP (r : Rs) (N a b : Nat) (lim : Int64) (d t : Int32) (h : N < 2 ^ 31) : nP (psR r N a b lim d t) = N := nI_clamp h
set_option maxHeartbeats 2000000 in
theorem AT_post {w w' : Wd} {x m a b q qa : Nat} {r r' : Rs} {lim : Int64} {d t : Int32} (hA : AT w x m r r') (a1 : 1 ≤ a) (a2 : a ≤ nE r') (b1 : 1 ≤ b) (b2 : b ≤ nE r') (hn : nP r' < 100) (hab : foR r' a = foR r' b ∧ rI r' 3 a ≠ 6 ∧ rI r' 3 b ≠ 6 ∧ 0 ≤ lim) (ht : t ≠ -1) (ha : Ac w qa d t)
    (hq : wK w q = 6 ∧ wI w 5 0 q = nI (nP r' + 1) ∧ wR w 5 1 q = eA w x a ∧ wR w 5 2 q = eA w x b ∧ wJ w 5 3 q = lim ∧ wR w 5 4 q = qa ∧ wR w 5 5 q = 0 ∧ wR w 5 6 q = 0)
    (pl : List Nat) (hP : CP w x r' pl) (hnq : ∀ y ∈ pl, y ≠ q)
    (hw : w' = sI (sR (if wR w 10 7 x = 0 then sR w 10 6 x q else sR w 5 6 (wR w 10 7 x) q) 10 7 x q) 10 5 x (nI (nP r' + 1))) : AT w' x m r (psR r' (nP r' + 1) a b lim d t) := by
  obtain ⟨hM, hD, hC, ⟨hF, hE, hW, _, hX⟩, hI⟩ := hA
  have hN2 := hI.1.2.2.2
  have hz := hD.1
  have K : wK w' = wK w ∧ wL w' = wL w ∧ wJ w' = wJ w ∧ xI w' = xI w ∧ xJ w' = xJ w ∧ xR w' = xR w := by rw [hw]; split <;> exact ⟨rfl, rfl, rfl, rfl, rfl, rfl⟩
  have Ii : ∀ c k y, wI w' c k y = if c = 10 ∧ k = 5 ∧ y = x then nI (nP r' + 1) else wI w c k y := fun c k y => by rw [hw]; split <;> rfl
  have I0 : ∀ c, c ≠ 10 → wI w' c = wI w c := fun c hc => by funext k y; rw [Ii, if_neg (fun z => hc z.1)]
  have Rr : ∀ c k, ¬ (c = 10 ∧ (k = 6 ∨ k = 7)) → ¬ (c = 5 ∧ k = 6) → wR w' c k = wR w c k := fun c k h1 h2 => by
    funext y
    rw [hw]
    split
    · show (if c = 10 ∧ k = 7 ∧ y = x then q else if c = 10 ∧ k = 6 ∧ y = x then q else wR w c k y) = _
      rw [if_neg (by omega), if_neg (by omega)]
    · show (if c = 10 ∧ k = 7 ∧ y = x then q else if c = 5 ∧ k = 6 ∧ y = wR w 10 7 x then q else wR w c k y) = _
      rw [if_neg (by omega), if_neg (by omega)]
  have R5 : ∀ c, c ≠ 10 → c ≠ 5 → wR w' c = wR w c := fun c h1 h2 => by funext k; exact Rr c k (by omega) (by omega)
  have e1 : eA w' x = eA w x := by funext e; unfold eA; rw [Rr 10 1 (by omega) (by omega), K.2.2.2.2.2]
  have e2 : wA w' x = wA w x := by funext e; unfold wA; rw [R5 2 (by omega) (by omega), e1]
  have e3 : fA w' x = fA w x := by funext e; unfold fA; rw [Rr 10 0 (by omega) (by omega), K.2.2.2.2.2]
  have hAc : ∀ {y d k}, Ac w y d k → Ac w' y d k := fun {y d k} h => by unfold Ac at *; rw [K.1, I0 0 (by decide)]; exact h
  have hC4 : CF w' x r' ∧ CE w' x r' ∧ CW w' x r' ∧ CX w' x r' := by
    have h0 : CF w x r' ∧ CE w x r' ∧ CW w x r' ∧ CX w x r' := ⟨hF, hE, hW, hX⟩
    unfold CF CE CW CX CL Ac at *
    simp only [e1, e2, e3, K.1, K.2.1, K.2.2.1, K.2.2.2.2.2, R5 2 (by omega) (by omega), R5 3 (by omega) (by omega), R5 8 (by omega) (by omega), R5 9 (by omega) (by omega), I0 0 (by decide), I0 2 (by decide), I0 3 (by decide), I0 8 (by decide), I0 9 (by decide)]
    exact h0
  have J : ∀ k, k ≠ 5 → wI w' 10 k x = wI w 10 k x := fun k hk => by rw [Ii, if_neg (fun z => hk z.2.1)]
  refine ⟨MO_mv (fun y _ => ⟨by rw [K.1], by rw [K.2.1]⟩) (fun k => by rw [R5 11 (by omega) (by omega)]) (fun k => by rw [I0 11 (by decide)]) (by rw [K.2.2.1]) (fun k i _ _ => ⟨by rw [K.2.2.2.1], by rw [K.2.2.2.2.1]⟩) hM, ?_, ?_, ⟨CF_R (w := w') (r := r') rfl rfl rfl rfl rfl rfl rfl rfl rfl rfl rfl rfl rfl rfl rfl hC4.1, hC4.2.1, hC4.2.2.1, ⟨pl ++ [q], ?_⟩, hC4.2.2.2⟩, ?_⟩
  · unfold DI ca at *
    rw [K.1, R5 1 (by omega) (by omega), Rr 10 2 (by omega) (by omega), R5 11 (by omega) (by omega)]; exact hD
  · have h := hC
    refine ⟨?_, ⟨?_, ?_, ?_, ?_, ?_, ?_, ?_, ?_, ?_, ?_⟩, ?_⟩
    · rw [K.1, K.2.1, Rr 10 0 (by omega) (by omega), Rr 10 1 (by omega) (by omega), Rr 10 2 (by omega) (by omega), Rr 10 8 (by omega) (by omega)]; exact h.1
    · rw [J 3 (by decide)]; exact h.2.1.1
    · rw [J 4 (by decide)]; exact h.2.1.2.1
    · rw [Ii, if_pos ⟨rfl, rfl, rfl⟩]; rfl
    · rw [I0 4 (by decide), Rr 10 8 (by omega) (by omega)]; exact h.2.1.2.2.2.1
    · rw [I0 4 (by decide), Rr 10 8 (by omega) (by omega)]; exact h.2.1.2.2.2.2.1
    · rw [J 9 (by decide)]; exact h.2.1.2.2.2.2.2.1
    · rw [J 10 (by decide)]; exact h.2.1.2.2.2.2.2.2.1
    · rw [K.2.2.1]; exact h.2.1.2.2.2.2.2.2.2.1
    · rw [J 12 (by decide)]; exact h.2.1.2.2.2.2.2.2.2.2.1
    · rw [J 13 (by decide)]; exact h.2.1.2.2.2.2.2.2.2.2.2
    · rw [K.1, K.2.1, K.2.2.2.1, I0 1 (by decide), R5 1 (by omega) (by omega), Rr 10 2 (by omega) (by omega)]; exact h.2.2
  · have hnp : nP (psR r' (nP r' + 1) a b lim d t) = nP r' + 1 := ps_nP _ _ _ _ _ _ _ (by omega)
    have hq0 := K_nz hz hq.1
    have hl := hP.2.1
    have plK : ∀ y ∈ pl, wK w y = 6 := fun y hy => by
      obtain ⟨i, hi, rfl⟩ := List.mem_iff_getElem.mp hy
      have h7 := (hP.2.2.2 i (by rw [← hl]; exact hi)).1
      have e : pl.getD i 0 = pl[i] := by simp [List.getD, hi]
      rw [e] at h7; exact h7
    have nd : pl.Nodup := by
      refine List.pairwise_iff_getElem.mpr (fun i j hi hj hij he => ?_)
      have a := (hP.2.2.2 i (by omega)).2.1
      have b := (hP.2.2.2 j (by omega)).2.1
      have ei : pl.getD i 0 = pl.getD j 0 := by simp [List.getD, hi, hj, he]
      rw [ei, b] at a
      have := (nI_eq (by omega) (by omega)).mp a
      omega
    have h76 : ∀ z, z ∈ pl ++ [] → (pl.getLast? = some z → wR w' 5 6 z = q) ∧ (pl.getLast? ≠ some z → wR w' 5 6 z = wR w 5 6 z) := fun z hz' => by
      have hz'' : z ∈ pl := by simpa using hz'
      have hne : wR w 10 7 x ≠ 0 := fun e => by
        rw [hP.2.2.1] at e
        cases hlst : pl.getLast? with
        | none => rw [List.getLast?_eq_none_iff.mp hlst] at hz''; cases hz''
        | some y =>
          rw [hlst] at e
          have e' : y = 0 := e
          exact K_nz hz (plK y (List.mem_of_getLast? hlst)) e'
      have ew : wR w' 5 6 z = if z = wR w 10 7 x then q else wR w 5 6 z := by
        rw [hw, if_neg hne]; simp [S_sI, S_sR]
      rw [ew, hP.2.2.1]
      refine ⟨fun e => by rw [e]; simp, fun e => ?_⟩
      rw [if_neg]
      intro e3
      cases hlst : pl.getLast? with
      | none => rw [List.getLast?_eq_none_iff.mp hlst] at hz''; cases hz''
      | some y =>
        rw [hlst] at e3 e
        have : z = y := e3
        exact e (by rw [this])
    have hq6 : wR w' 5 6 q = ([] : List Nat).headD 0 := by
      show wR w' 5 6 q = 0
      rw [hw]
      split
      · simp [S_sI, S_sR]; exact hq.2.2.2.2.2.2.2
      · rename_i hne
        have : q ≠ wR w 10 7 x := fun e => by
          rw [hP.2.2.1] at e hne
          cases hlst : pl.getLast? with
          | none => rw [hlst] at hne; exact hne rfl
          | some y =>
            rw [hlst] at e
            have e' : q = y := e
            exact hnq y (List.mem_of_getLast? hlst) e'.symm
        simp [S_sI, S_sR, this]; exact hq.2.2.2.2.2.2.2
    have hins := Lk_ins (nx := wR w 5 6) (nx' := wR w' 5 6) hq0 pl [] (wR w 10 6 x) (by simpa using nd) (by simpa using hP.1) hq6 h76
    have h106 : wR w' 10 6 x = if pl = [] then q else wR w 10 6 x := by
      rw [hw]
      by_cases hp : pl = []
      · rw [if_pos hp]
        have : wR w 10 7 x = 0 := by rw [hP.2.2.1, hp]; rfl
        rw [if_pos this]; simp [S_sI, S_sR]
      · rw [if_neg hp]
        have : wR w 10 7 x ≠ 0 := fun e => by
          rw [hP.2.2.1] at e
          cases hlst : pl.getLast? with
          | none => exact hp (List.getLast?_eq_none_iff.mp hlst)
          | some y =>
            rw [hlst] at e
            have e' : y = 0 := e
            exact K_nz hz (plK y (List.mem_of_getLast? hlst)) e'
        rw [if_neg this]; simp [S_sI, S_sR]
    refine ⟨by rw [h106]; exact hins, by rw [hnp]; simp [hl], ?_, fun i hi => ?_⟩
    · have : wR w' 10 7 x = q := by rw [hw]; simp [S_sI, S_sR]
      rw [this]; simp
    · rw [hnp] at hi
      have G : ∀ {c : Nat}, c ≠ 6 → wR w' 5 c = wR w 5 c := fun {c} hc => Rr 5 c (by omega) (by omega)
      rw [K.1, K.2.2.1, I0 5 (by decide), G (c := 1) (by decide), G (c := 2) (by decide), G (c := 4) (by decide), G (c := 5) (by decide), e1]
      by_cases hi' : i = nP r'
      · have eg : (pl ++ [q]).getD i 0 = q := by rw [hi', ← hl]; simp
        rw [eg, hi']
        have x31 : ix (psR r' (nP r' + 1) a b lim d t) 31 (nP r' + 1) = a := by
          have : rI (psR r' (nP r' + 1) a b lim d t) 31 (nP r' + 1) = nI a := by simp [psR, R_uI, R_uJ]
          unfold ix; rw [this]; exact nI_clamp (by have := hI.1.2.1.2; omega)
        have x32 : ix (psR r' (nP r' + 1) a b lim d t) 32 (nP r' + 1) = b := by
          have : rI (psR r' (nP r' + 1) a b lim d t) 32 (nP r' + 1) = nI b := by simp [psR, R_uI, R_uJ]
          unfold ix; rw [this]; exact nI_clamp (by have := hI.1.2.1.2; omega)
        have x33 : rJ (psR r' (nP r' + 1) a b lim d t) 33 (nP r' + 1) = lim := by simp [psR, R_uI, R_uJ]
        have x34 : rI (psR r' (nP r' + 1) a b lim d t) 34 (nP r' + 1) = d := by simp [psR, R_uI, R_uJ]
        have x35 : rI (psR r' (nP r' + 1) a b lim d t) 35 (nP r' + 1) = t := by simp [psR, R_uI, R_uJ]
        have x37 : rI (psR r' (nP r' + 1) a b lim d t) 37 (nP r' + 1) = -1 := by simp [psR, R_uI, R_uJ]
        rw [x31, x32, x33, x34, x35, x37]
        exact ⟨hq.1, hq.2.1, hq.2.2.1, hq.2.2.2.1, hq.2.2.2.2.1, ht, by rw [hq.2.2.2.2.2.1]; exact hAc ha, ⟨fun _ => hq.2.2.2.2.2.2.1, fun z => absurd rfl z⟩⟩
      · have hil : i < nP r' := by omega
        have eg : (pl ++ [q]).getD i 0 = pl.getD i 0 := by simp [List.getD, List.getElem?_append, hl, hil]
        have h := hP.2.2.2 i hil
        have ne : ¬ i + 1 = nP r' + 1 := by omega
        have row : ∀ k, rI (psR r' (nP r' + 1) a b lim d t) k (i + 1) = rI r' k (i + 1) := fun k => by simp [psR, R_uI, R_uJ, hi']; rfl
        have row3 : rJ (psR r' (nP r' + 1) a b lim d t) 33 (i + 1) = rJ r' 33 (i + 1) := by simp [psR, R_uI, R_uJ, hi']; rfl
        have ixr : ∀ k, ix (psR r' (nP r' + 1) a b lim d t) k (i + 1) = ix r' k (i + 1) := fun k => by unfold ix; rw [row]
        rw [eg, ixr, ixr, row, row, row, row, row3]
        exact ⟨h.1, h.2.1, h.2.2.1, h.2.2.2.1, h.2.2.2.2.1, h.2.2.2.2.2.1, hAc h.2.2.2.2.2.2.1, hAc h.2.2.2.2.2.2.2⟩
  · have hnp : nP (psR r' (nP r' + 1) a b lim d t) = nP r' + 1 := ps_nP _ _ _ _ _ _ _ (by omega)
    refine ⟨⟨hI.1.1, hI.1.2.1, ?_, ?_⟩, hI.2.1, hI.2.2.1, hI.2.2.2.1, fun i i1 i2 => ?_, ⟨hI.2.2.2.2.2.1, hI.2.2.2.2.2.2.1, hI.2.2.2.2.2.2.2.1, hI.2.2.2.2.2.2.2.2.1, hI.2.2.2.2.2.2.2.2.2.1, fun i i1 i2 => ?_⟩⟩
    · rw [hnp]; rfl
    · rw [hnp]; omega
    · rw [hnp] at i2
      have hN := hI.1.2.1.2
      by_cases hi' : i = nP r' + 1
      · have r31 : rI (psR r' (nP r' + 1) a b lim d t) 31 i = nI a := by simp [psR, R_uI, R_uJ, hi']
        have r32 : rI (psR r' (nP r' + 1) a b lim d t) 32 i = nI b := by simp [psR, R_uI, R_uJ, hi']
        have x31 : ix (psR r' (nP r' + 1) a b lim d t) 31 i = a := by unfold ix; rw [r31]; exact nI_clamp (by omega)
        have x32 : ix (psR r' (nP r' + 1) a b lim d t) 32 i = b := by unfold ix; rw [r32]; exact nI_clamp (by omega)
        rw [x31, x32, r31, r32]
        exact ⟨rfl, a1, a2, rfl, b1, b2⟩
      · have row : ∀ k, rI (psR r' (nP r' + 1) a b lim d t) k i = rI r' k i := fun k => by simp [psR, R_uI, R_uJ, hi']; rfl
        have ixr : ∀ k, ix (psR r' (nP r' + 1) a b lim d t) k i = ix r' k i := fun k => by unfold ix; rw [row]
        rw [row, row, ixr, ixr]
        exact hI.2.2.2.2.1 i i1 (by omega)
    · rw [hnp] at i2
      have hN := hI.1.2.1.2
      by_cases hi' : i = nP r' + 1
      · have r31 : rI (psR r' (nP r' + 1) a b lim d t) 31 i = nI a := by simp [psR, R_uI, R_uJ, hi']
        have r32 : rI (psR r' (nP r' + 1) a b lim d t) 32 i = nI b := by simp [psR, R_uI, R_uJ, hi']
        have x31 : ix (psR r' (nP r' + 1) a b lim d t) 31 i = a := by unfold ix; rw [r31]; exact nI_clamp (by omega)
        have x32 : ix (psR r' (nP r' + 1) a b lim d t) 32 i = b := by unfold ix; rw [r32]; exact nI_clamp (by omega)
        have x33 : rJ (psR r' (nP r' + 1) a b lim d t) 33 i = lim := by simp [psR, R_uI, R_uJ, hi']
        rw [x31, x32, x33]
        exact hab
      · have row : ∀ k, rI (psR r' (nP r' + 1) a b lim d t) k i = rI r' k i := fun k => by simp [psR, R_uI, R_uJ, hi']; rfl
        have ixr : ∀ k, ix (psR r' (nP r' + 1) a b lim d t) k i = ix r' k i := fun k => by unfold ix; rw [row]
        have row3 : rJ (psR r' (nP r' + 1) a b lim d t) 33 i = rJ r' 33 i := by simp [psR, R_uI, R_uJ, hi']; rfl
        rw [ixr, ixr, row3]
        exact hI.2.2.2.2.2.2.2.2.2.2 i i1 (by omega)
def poF (r : Rs) (a b : Nat) (lim : Int64) : Int32 := if rI r 3 a = 6 then 4 else if rI r 3 b = 6 then 4 else if lim < 0 then 5 else if 999999999999 < lim then 5 else if whR r a = whR r b then 5 else if oneB r a b = false then 6 else if ¬ Fs r (whR r a) 100 (whR r b) = -1 then 9 else if nP r = 100 then 10 else 0
def poL (r : Rs) (a b : Nat) : List Nat := whR r a :: pth r (Fs r (whR r a) 100) (Fs r (whR r a) 100 (whR r b)).toNatClampNeg (whR r b)
def poR (r : Rs) (a b : Nat) : Rs := uS (rg2 r (poL r a b)) 44 (sS r 44 + 1)
set_option maxHeartbeats 2000000 in
theorem c_postFault {X : Cx} {w : Wd} {x m : Nat} {r0 r : Rs} (hA : AT w x m r0 r) (a b : Nat) (lim : Int64) (a1 : 1 ≤ a) (a2 : a ≤ nE r) (b1 : 1 ≤ b) (b2 : b ≤ nE r) : Ct X bX10_postFault mX10_postFault [vR x, vR (eA w x a), vR (eA w x b), vJ lim] w (qI fun v w' => v = poF r a b lim ∧ (poF r a b lim ≠ 9 → Sc w w') ∧ (poF r a b lim = 9 → AT w' x m r0 (poR r a b))) := by
  have hz := hA.2.1.1
  have hC := hA.2.2.1
  have hI := hA.2.2.2.2
  have h4 := hA.2.2.2.1
  have hE := hI.2.2.2.1
  have hCa := h4.2.1 a a1 a2
  have hCb := h4.2.1 b b1 b2
  have ka := whole_of_e hE h4.2.2.1 a1 a2
  have kb := whole_of_e hE h4.2.2.1 b1 b2
  have hka := h4.2.2.1 _ ka.1 ka.2.1 ka.2.2
  have hkb := h4.2.2.1 _ kb.1 kb.2.1 kb.2.2
  obtain ⟨pl, hCP⟩ := h4.2.2.2.1
  have hP := PF_of hCP
  have hN2 := hI.1.2.2.2
  refine oX10_postFault X _ x _ _ lim w ⟨fun q => absurd q (K_nz hz hCa.1.1), fun _ => ⟨fun _ => ?_, fun q => absurd q (K_nz hz hCb.1.1)⟩⟩
  rw [hCa.1.2.2.1, hCb.1.2.2.1, hka.2.2.1.2.1, hkb.2.2.1.2.1, ← (hE a a1 a2).2.2.2.1.2.2.1, ← (hE b b1 b2).2.2.2.1.2.2.1]
  have F : ∀ f : Int32, poF r a b lim = f → f ≠ 9 → f = poF r a b lim ∧ (poF r a b lim ≠ 9 → Sc w w) ∧ (poF r a b lim = 9 → AT w x m r0 (poR r a b)) := fun f e h => ⟨e.symm, fun _ => Sc.rf w, fun z => absurd (e.symm.trans z) h⟩
  refine ⟨hCa.1.1, hCb.1.1, hka.1.1, hka.2.2.1.1, fun q => F 4 (by simp [poF, q]) (by decide), fun q6 => ⟨hkb.1.1, hkb.2.2.1.1, fun q7 => oX10_isSum X _ lim w ?_, fun q => F 4 (by simp [poF, q]) (by decide)⟩⟩
  rw [lg_lt, lg_gt]
  refine ⟨fun z => ⟨fun _ => F 5 (by simp [poF, q6, q7, z]) (by decide), fun q => absurd rfl q⟩, fun z1 => ⟨fun z => ⟨fun _ => F 5 (by simp [poF, q6, q7, z]) (by decide), fun q => absurd rfl q⟩, fun z2 => ⟨fun q => absurd q (by decide), fun _ => ⟨fun hne => ⟨hC.1.1, (c_oneFolio w x r hz hC hI h4 a b a1 a2 b1 b2).I ?_⟩, fun he => ?_⟩⟩⟩⟩
  · have hne' : whR r a ≠ whR r b := fun e => hne (by rw [e])
    rintro v w1 ⟨rfl, rfl⟩
    refine ⟨fun hl => ⟨hC.1.1, hC.1.2.2.2.2.2.1, (c_closedBy hA hP (whR r a) (whR r b) ka kb).I ?_⟩, fun hl => ?_⟩
    · rw [bI_n] at hl
      rintro v w2 ⟨p1, p2⟩
      by_cases hF : Fs r (whR r a) 100 (whR r b) = -1
      · obtain ⟨rfl, hs⟩ := p1 hF
        have h5 : wI w2 10 5 x = nI (nP r) := by rw [hs.2.2.2.2.2.2.1 10 5 (by omega) (by decide)]; exact hC.2.1.2.2.1.trans hI.1.2.2.1
        refine ⟨fun _ => ⟨by rw [hs.1]; exact hC.1.1, ?_⟩, fun q => absurd rfl q⟩
        rw [h5]
        refine ⟨fun q => ?_, fun q => ?_⟩
        · have := (nI_ltI (b := 100) (by omega) (by omega)).mp q
          have e : poF r a b lim = 0 := by
            have : nP r ≠ 100 := by omega
            simp [poF, q6, q7, z1, z2, hne', hl, hF, this]
          exact ⟨e.symm, fun _ => hs, fun y => absurd (e.symm.trans y) (by decide)⟩
        · have : nP r = 100 := by
            have : ¬ nP r < 100 := fun y => q ((nI_ltI (a := nP r) (b := 100) (by omega) (by omega)).mpr y)
            omega
          have e : poF r a b lim = 10 := by simp [poF, q6, q7, z1, z2, hne', hl, hF, this]
          exact ⟨e.symm, fun _ => hs, fun y => absurd (e.symm.trans y) (by decide)⟩
      · obtain ⟨rfl, d, w3, hd, hd2, hs, hg, g1, g2, g3⟩ := p2 hF
        have e : poF r a b lim = 9 := by simp [poF, q6, q7, z1, z2, hne', hl, hF]
        refine ⟨fun q => absurd q (by decide), fun _ => ⟨e.symm, fun y => absurd e y, fun _ => ?_⟩⟩
        have hA3 := AT_Sc hs hA
        have ec : wR w3 10 2 x = wR w1 10 2 x := by rw [hs.2.1]
        have eca : ca w3 x = ca w1 x := by unfold ca; rw [hs.2.1]
        have hLe : poL r a b = whR r a :: pth r (Fs r (whR r a) 100) d (whR r b) := by
          unfold poL; rw [hd2, nI_clamp (by omega)]
        have hlen : (poL r a b).length = d + 1 := by rw [hLe, List.length_cons, pth_len]
        refine AT_ring hA3 (by rw [ec]; exact hg) (poL r a b) (by omega) (by rw [ec, hlen]; exact g1) (by rw [ec, g2, hs.2.2.2.2.2.2.1 1 2 (by omega) (by decide)]) (fun j hj => ?_)
        rw [hlen] at hj
        rw [eca, g3 j hj, hLe]
    · rw [bI_0] at hl
      exact F 6 (by simp [poF, q6, q7, z1, z2, hne', hl]) (by decide)
  · have he' : whR r a = whR r b := wA_inj hI.1 h4.2.1 h4.2.2.1 ka.1 ka.2.1 ka.2.2 kb.1 kb.2.1 kb.2.2 he
    exact F 5 (by simp [poF, q6, q7, z1, z2, he']) (by decide)
