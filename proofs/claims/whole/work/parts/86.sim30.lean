/-! ===== split, hand: the invariant of the reference's new state ===== -/
theorem pt_lv0 {r : Rs} {n : Nat} {s : Int64} {ow : Int32} (hI : RI r) (h1 : 1 ≤ n) (h2 : n ≤ nE r) (hn : nE r ≤ 298) (hlf : fiR r n = 0) : ∀ k, 1 ≤ k → k ≤ nE r → lvs (fiR (ptR r (nE r + 1) n s ow)) k = (lvs (fiR r) k).flatMap (fun y => if y = n then [nE r + 1, nE r + 1 + 1] else [y]) := by
  have hfi := pt_fi r (nE r + 1) n s ow (by omega)
  have H := HT_of hI.1 hI.2.2.2.1
  refine tree_ind H (fun e a b h3 => ?_) (fun e a b h3 p1 p2 => ?_)
  · rw [lvs_leaf H h3]
    by_cases he : e = n
    · have hf : fiR (ptR r (nE r + 1) n s ow) e = nE r + 1 := by rw [hfi, if_pos he]
      have g1 : fiR (ptR r (nE r + 1) n s ow) (nE r + 1) = 0 := by rw [hfi, if_neg (by omega), if_neg (by omega), if_pos rfl]
      have g2 : fiR (ptR r (nE r + 1) n s ow) (nE r + 1 + 1) = 0 := by rw [hfi, if_neg (by omega), if_pos rfl]
      rw [lvs_un, hf, if_pos (by omega), lvs_0 g1, lvs_0 g2]
      simp [he]
    · have hf : fiR (ptR r (nE r + 1) n s ow) e = 0 := by rw [hfi, if_neg he, if_neg (by omega), if_neg (by omega)]; exact h3
      rw [lvs_0 hf]
      simp [he]
  · have he : e ≠ n := fun z => h3 (by rw [z]; exact hlf)
    have hf : fiR (ptR r (nE r + 1) n s ow) e = fiR r e := by rw [hfi, if_neg he, if_neg (by omega), if_neg (by omega)]
    have hkk := H.kids a b h3
    rw [lvs_kids H a b h3, lvs_un, hf, if_pos ⟨hkk.1, hkk.2.1⟩, p1, p2, List.flatMap_append]
theorem flat_sum {f g : Nat → Int} {n N M : Nat} (h : g N + g M = f n) : ∀ l : List Nat, (∀ y ∈ l, y ≠ n → g y = f y) → ((l.flatMap (fun y => if y = n then [N, M] else [y])).map g).sum = (l.map f).sum := by
  intro l
  induction l with
  | nil => intro _; rfl
  | cons y t ih =>
    intro hl
    rw [List.flatMap_cons, List.map_append, List.sum_append, ih (fun z hz => hl z (List.mem_cons_of_mem _ hz)), List.map_cons, List.sum_cons]
    by_cases hyn : y = n
    · rw [if_pos hyn, hyn]
      simp only [List.map_cons, List.map_nil, List.sum_cons, List.sum_nil]
      omega
    · rw [if_neg hyn]
      simp only [List.map_cons, List.map_nil, List.sum_cons, List.sum_nil]
      rw [hl y List.mem_cons_self hyn]; omega
theorem pt_lsum {r : Rs} {n : Nat} {s : Int64} {ow : Int32} (hI : RI r) (h1 : 1 ≤ n) (h2 : n ≤ nE r) (hn : nE r ≤ 298) (hlf : fiR r n = 0) (hs : 0 ≤ s ∧ s ≤ rJ r 8 n) (k : Nat) (k1 : 1 ≤ k) (k2 : k ≤ nE r) : lsum (ptR r (nE r + 1) n s ow) k = lsum r k := by
  have H := HT_of hI.1 hI.2.2.2.1
  have e := Int64_sub hs.1 hs.2
  have e1 : (rJ (ptR r (nE r + 1) n s ow) 8 (nE r + 1)).toInt = s.toInt := by
    rw [pt_8, if_neg (Nat.ne_of_lt (Nat.lt_succ_self _)), if_pos rfl]
  have e2 : (rJ (ptR r (nE r + 1) n s ow) 8 (nE r + 1 + 1)).toInt = (rJ r 8 n).toInt - s.toInt := by
    rw [pt_8, if_pos rfl, e]
  have e3 : ∀ y ∈ lvs (fiR r) k, y ≠ n → (rJ (ptR r (nE r + 1) n s ow) 8 y).toInt = (rJ r 8 y).toInt := fun y hy _ => by
    have := (lvs_mem H k k1 k2 y hy).2.2.2
    rw [pt_8, if_neg (by omega), if_neg (by omega)]
  have hl := pt_lv0 (s := s) (ow := ow) hI h1 h2 hn hlf k k1 k2
  have h3 := flat_sum (f := fun y => (rJ r 8 y).toInt) (g := fun y => (rJ (ptR r (nE r + 1) n s ow) 8 y).toInt) (n := n) (N := nE r + 1) (M := nE r + 1 + 1) (by simp only [e1, e2]; omega) (lvs (fiR r) k) e3
  rw [← hl] at h3
  exact h3
theorem pt_RI {r : Rs} {n : Nat} {s : Int64} {ow : Int32} (hI : RI r) (h1 : 1 ≤ n) (h2 : n ≤ nE r) (hn : nE r ≤ 298) (hlf : fiR r n = 0) (hk : rI r 3 n ≠ 6) (hk4 : rI r 3 n ≠ 4) (hs : 0 ≤ s ∧ s ≤ rJ r 8 n) : RI (ptR r (nE r + 1) n s ow) := by
  have hIn := hI.2.2.2.1 n h1 h2
  have hF := hI.1.1.2
  have hwn := hIn.2.1.2.1
  have hfn := hIn.2.2.2.1.1
  have hN : nE (ptR r (nE r + 1) n s ow) = nE r + 1 + 1 := pt_nE _ _ _ _ _ (by omega)
  have hpa := pt_pa r (nE r + 1) n s ow (by omega)
  have hfi := pt_fi r (nE r + 1) n s ow (by omega)
  have hwh := pt_wh r (nE r + 1) n s ow (by omega)
  have hfo := pt_fo r (nE r + 1) n s ow (by omega)
  refine ⟨⟨hI.1.1, ⟨?_, ?_⟩, hI.1.2.2⟩, hI.2.1, ⟨hI.2.2.1.1, fun e he => ?_, hI.2.2.1.2.2.1, fun e a b => ?_, fun e a b => ?_, fun e a b => ?_⟩, fun e a b => ?_, fun q a b => ?_, ⟨hI.2.2.2.2.2.1, hI.2.2.2.2.2.2.1, hI.2.2.2.2.2.2.2.1, hI.2.2.2.2.2.2.2.2.1, fun k a b c => ?_, fun q a b => ?_⟩⟩
  · rw [hN]; rfl
  · rw [hN]; omega
  · rw [hN] at he
    exact hI.2.2.1.2.1 e (by omega)
  · rw [hN] at b
    rw [pt_3, hpa]
    by_cases e1 : e = nE r + 1 + 1
    · rw [if_pos e1]; intro z; exact absurd z hk
    · by_cases e2 : e = nE r + 1
      · rw [if_neg e1, if_pos e2]; intro z; exact absurd z hk
      · rw [if_neg e1, if_neg e2, if_neg e1, if_neg e2]; exact hI.2.2.1.2.2.2.1 e a (by omega)
  · rw [hN] at b
    rw [pt_r11, hpa]
    by_cases e1 : e = nE r + 1 + 1
    · rw [if_pos e1]; intro z; omega
    · by_cases e2 : e = nE r + 1
      · rw [if_neg e1, if_pos e2]; intro z; omega
      · rw [if_neg e1, if_neg e2]; exact hI.2.2.1.2.2.2.2.1 e a (by omega)
  · rw [hN] at b
    simp only [pt_3, pt_8, pt_23, pt_r11, pt_r18, pt_r21, pt_j12, pt_x24, hpa, hfo]
    have new : ∀ e', (e' = nE r + 1 + 1 ∨ e' = nE r + 1) → ix r 24 e' = 0 := fun e' he' => by
      have := hI.2.2.1.2.1 e' (by omega)
      unfold ix; rw [this.2.2.1]; rfl
    have es := Int64_sub hs.1 hs.2
    have h8n := (hI.2.2.1.2.2.2.2.2 n h1 h2).2.1.1
    have nn : 0 ≤ rJ r 8 n - s := by
      have := hs.2
      rw [Int64.le_iff_toInt_le] at this ⊢
      rw [es]; show (0 : Int) ≤ _; omega
    by_cases e1 : e = nE r + 1 + 1
    · simp only [if_pos e1, new e (Or.inl e1)]
      exact ⟨⟨fun z => absurd rfl z, fun _ => trivial⟩, ⟨nn, fun z => absurd z hk4, fun z => absurd z (by omega)⟩, fun z => absurd z (by omega)⟩
    · by_cases e2 : e = nE r + 1
      · simp only [if_neg e1, if_pos e2, new e (Or.inr e2)]
        exact ⟨⟨fun z => absurd rfl z, fun _ => trivial⟩, ⟨hs.1, fun z => absurd z hk4, fun z => absurd z (by omega)⟩, fun z => absurd z (by omega)⟩
      · have hx := hI.2.2.1.2.2.2.2.2 e a (by omega)
        have h24 := (hI.2.2.2.1 e a (by omega)).2.2.2.2.1
        have n1 : ¬ ix r 24 e = nE r + 1 + 1 := by omega
        have n2 : ¬ ix r 24 e = nE r + 1 := by omega
        simp only [if_neg e1, if_neg e2, if_neg n1, if_neg n2, pt_lsum hI h1 h2 hn hlf hs e a (by omega)]
        exact hx
  · rw [hN] at b
    unfold RIe
    simp only [pt_3, pt_4, pt_5, pt_6, pt_9, pt_r21, pt_r24, pt_r25, pt_x24, pt_x25, hpa, hfi, hwh, hfo, hN, pt_nF]
    have w1 : ¬ whR r n = nE r + 1 + 1 := by omega
    have w2 : ¬ whR r n = nE r + 1 := by omega
    have n1 : ¬ n = nE r + 1 + 1 := by omega
    have n2 : ¬ n = nE r + 1 := by omega
    have new : ∀ e', (e' = nE r + 1 + 1 ∨ e' = nE r + 1) → rI r 24 e' = 0 ∧ rI r 25 e' = 0 ∧ ix r 24 e' = 0 ∧ ix r 25 e' = 0 := fun e' he' => by
      have := hI.2.2.1.2.1 e' (by omega)
      exact ⟨this.2.2.1, this.2.2.2.1, by unfold ix; rw [this.2.2.1]; rfl, by unfold ix; rw [this.2.2.2.1]; rfl⟩
    by_cases e1 : e = nE r + 1 + 1
    · obtain ⟨z1, z2, z3, z4⟩ := new e (Or.inl e1)
      have e3 : ¬ e = n := by omega
      simp only [z1, z2, z3, z4, if_pos e1, if_neg e3, if_neg w1, if_neg w2, if_neg n1, if_neg n2, if_true]
      refine ⟨⟨trivial, trivial, trivial, rfl, rfl, rfl⟩, ⟨hIn.2.1.1, by omega, hIn.2.1.2.2.1, ⟨fun z => by omega, fun z => by omega⟩, fun _ => trivial⟩, ⟨by omega, fun _ => Or.inr e1.symm, fun z => absurd rfl z⟩, ⟨hfn, hIn.2.2.2.1.2.1, hIn.2.2.2.1.2.2.1, hIn.2.2.2.1.2.2.2⟩, ⟨by omega, by omega, Or.inl trivial, fun z => absurd rfl z, fun z => absurd rfl z⟩⟩
    · by_cases e2 : e = nE r + 1
      · obtain ⟨z1, z2, z3, z4⟩ := new e (Or.inr e2)
        have e3 : ¬ e = n := by omega
        simp only [z1, z2, z3, z4, if_neg e1, if_pos e2, if_neg e3, if_neg w1, if_neg w2, if_neg n1, if_neg n2, if_true]
        refine ⟨⟨trivial, trivial, trivial, rfl, rfl, rfl⟩, ⟨hIn.2.1.1, by omega, hIn.2.1.2.2.1, ⟨fun z => by omega, fun z => by omega⟩, fun _ => trivial⟩, ⟨by omega, fun _ => Or.inl e2.symm, fun z => absurd rfl z⟩, ⟨hfn, hIn.2.2.2.1.2.1, hIn.2.2.2.1.2.2.1, hIn.2.2.2.1.2.2.2⟩, ⟨by omega, by omega, Or.inl trivial, fun z => absurd rfl z, fun z => absurd rfl z⟩⟩
      · obtain ⟨p, q, c, g, h⟩ := hI.2.2.2.1 e a (by omega)
        have v1 : ¬ whR r e = nE r + 1 + 1 := by omega
        have v2 : ¬ whR r e = nE r + 1 := by omega
        have u1 : ¬ paR r e = nE r + 1 + 1 := by omega
        have u2 : ¬ paR r e = nE r + 1 := by omega
        simp only [if_neg e1, if_neg e2, if_neg v1, if_neg v2, if_neg u1, if_neg u2]
        refine ⟨⟨p.1, p.2.1, p.2.2.1, ?_, p.2.2.2.2⟩, q, ⟨c.1, fun z => ?_, fun z => ?_⟩, g, ⟨by omega, by omega, h.2.2.1, fun z => ?_, fun z => ?_⟩⟩
        · by_cases e3 : e = n
          · rw [if_pos e3, if_pos e3]
          · rw [if_neg e3, if_neg e3]; exact p.2.2.2.1
        · have y := c.2.1 z
          have y2 : ¬ paR r e = n := fun y3 => by rw [y3, hlf] at y; have := c.1; omega
          rw [if_neg y2]; exact y
        · by_cases e3 : e = n
          · rw [if_pos e3]
            refine ⟨by omega, by omega, ?_, ?_⟩
            · rw [if_neg (by omega), if_pos rfl, e3]
            · rw [if_pos rfl, e3]
          · rw [if_neg e3] at z ⊢
            obtain ⟨y1, y2, y3, y4⟩ := c.2.2 z
            refine ⟨y1, by omega, ?_, ?_⟩
            · rw [if_neg (by omega), if_neg (by omega)]; exact y3
            · rw [if_neg (by omega), if_neg (by omega)]; exact y4
        · obtain ⟨y1, y2, y3, y4⟩ := h.2.2.2.1 z
          refine ⟨y1, y2, ?_, y4⟩
          rw [if_neg (by omega), if_neg (by omega)]; exact y3
        · obtain ⟨y1, y2, y3, y4⟩ := h.2.2.2.2 z
          refine ⟨y1, y2, ?_, y4⟩
          rw [if_neg (by omega), if_neg (by omega)]; exact y3
  · obtain ⟨p, b', c, g, h, i⟩ := hI.2.2.2.2.1 q a b
    refine ⟨p, b', ?_, g, h, ?_⟩
    · rw [hN]; exact Nat.le_succ_of_le (Nat.le_succ_of_le c)
    · rw [hN]; exact Nat.le_succ_of_le (Nat.le_succ_of_le i)
  · rw [hN] at b
    rw [hpa] at c
    by_cases e1 : k = nE r + 1 + 1
    · rw [if_pos e1] at c; omega
    by_cases e2 : k = nE r + 1
    · rw [if_neg e1, if_pos e2] at c; omega
    rw [if_neg e1, if_neg e2] at c
    exact hI.2.2.2.2.2.2.2.2.2.1 k a (by omega) c
  · have hp := hI.2.2.2.2.1 q a b
    have hz := hI.2.2.2.2.2.2.2.2.2.2 q a b
    have n1 : ¬ ix r 31 q = nE r + 1 := by have := hp.2.2.1; omega
    have n2 : ¬ ix r 32 q = nE r + 1 := by have := hp.2.2.2.2.2; omega
    have n3 : ¬ ix r 31 q = nE r + 1 + 1 := by have := hp.2.2.1; omega
    have n4 : ¬ ix r 32 q = nE r + 1 + 1 := by have := hp.2.2.2.2.2; omega
    rw [pt_x31, pt_x32, hfo, hfo, pt_3, pt_3, if_neg n3, if_neg n1, if_neg n4, if_neg n2, if_neg n3, if_neg n1, if_neg n4, if_neg n2]
    exact hz
