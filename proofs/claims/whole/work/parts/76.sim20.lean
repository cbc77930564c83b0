/-! ===== enter: the new state of the reference ===== -/
section C20
variable (r : Rs) (N f : Nat) (ki : Int32) (s : Int64) (rt : Int32) (P : Int64) (d t : Int32)
theorem en_3 (i : Nat) : rI (enR r N f ki s rt P d t) 3 i = if i = N then ki else rI r 3 i := by
  show (if 3 = 3 ∧ i = N then ki else rI r 3 i) = _; simp
theorem en_4 (i : Nat) : rI (enR r N f ki s rt P d t) 4 i = if i = N then nI f else rI r 4 i := by
  show (if 4 = 4 ∧ i = N then nI f else rI r 4 i) = _; simp
theorem en_5 (i : Nat) : rI (enR r N f ki s rt P d t) 5 i = if i = N then nI N else rI r 5 i := by
  show (if 5 = 5 ∧ i = N then nI N else rI r 5 i) = _; simp
theorem en_6 (i : Nat) : rI (enR r N f ki s rt P d t) 6 i = if i = N then 0 else rI r 6 i := by
  show (if 6 = 6 ∧ i = N then 0 else rI r 6 i) = _; simp
theorem en_7 (i : Nat) : rI (enR r N f ki s rt P d t) 7 i = if i = N then 0 else rI r 7 i := by
  show (if 7 = 7 ∧ i = N then 0 else rI r 7 i) = _; simp
theorem en_9 (i : Nat) : rI (enR r N f ki s rt P d t) 9 i = if i = N then 0 else rI r 9 i := by
  show (if 9 = 9 ∧ i = N then 0 else rI r 9 i) = _; simp
theorem en_11 (i : Nat) : rI (enR r N f ki s rt P d t) 11 i = if i = N then rt else rI r 11 i := by
  show (if 11 = 11 ∧ i = N then rt else rI r 11 i) = _; simp
theorem en_13 (i : Nat) : rI (enR r N f ki s rt P d t) 13 i = if i = N then d else rI r 13 i := by
  show (if 13 = 13 ∧ i = N then d else rI r 13 i) = _; simp
theorem en_14 (i : Nat) : rI (enR r N f ki s rt P d t) 14 i = if i = N then t else rI r 14 i := by
  show (if 14 = 14 ∧ i = N then t else rI r 14 i) = _; simp
theorem en_16 (i : Nat) : rI (enR r N f ki s rt P d t) 16 i = if i = N then -1 else rI r 16 i := by
  show (if 16 = 16 ∧ i = N then -1 else rI r 16 i) = _; simp
theorem en_17 (i : Nat) : rI (enR r N f ki s rt P d t) 17 i = if i = N then d else rI r 17 i := by
  show (if 17 = 17 ∧ i = N then d else rI r 17 i) = _; simp
theorem en_20 (i : Nat) : rI (enR r N f ki s rt P d t) 20 i = if i = N then 36501 else rI r 20 i := by
  show (if 20 = 20 ∧ i = N then 36501 else rI r 20 i) = _; simp
theorem en_21 (i : Nat) : rI (enR r N f ki s rt P d t) 21 i = if i = N then 2 else rI r 21 i := by
  show (if 21 = 21 ∧ i = N then 2 else rI r 21 i) = _; simp
theorem en_23 (i : Nat) : rI (enR r N f ki s rt P d t) 23 i = if i = N then -1 else rI r 23 i := by
  show (if 23 = 23 ∧ i = N then -1 else rI r 23 i) = _; simp
theorem en_27 (i : Nat) : rI (enR r N f ki s rt P d t) 27 i = if i = N then -1 else rI r 27 i := by
  show (if 27 = 27 ∧ i = N then -1 else rI r 27 i) = _; simp
theorem en_29 (i : Nat) : rI (enR r N f ki s rt P d t) 29 i = if 60 * N ≤ i ∧ i < 60 * N + 60 then -1 else rI r 29 i := by
  show (if 29 = 29 ∧ 60 * N ≤ i ∧ i < 60 * N + 60 then -1 else rI r 29 i) = _; simp
theorem en_8 (i : Nat) : rJ (enR r N f ki s rt P d t) 8 i = if i = N then (if ki = 3 then 0 else s) else rJ r 8 i := by
  show (if 8 = 8 ∧ i = N then (if ki = 3 then 0 else s) else rJ r 8 i) = _; simp
theorem en_10 (i : Nat) : rJ (enR r N f ki s rt P d t) 10 i = if i = N then P else rJ r 10 i := by
  show (if 10 = 10 ∧ i = N then P else rJ r 10 i) = _; simp
theorem en_12 (i : Nat) : rJ (enR r N f ki s rt P d t) 12 i = if i = N then s else rJ r 12 i := by
  show (if 12 = 12 ∧ i = N then s else rJ r 12 i) = _; simp
end C20
theorem if_clamp {c : Prop} [Decidable c] (a b : Int32) : (if c then a else b).toNatClampNeg = if c then a.toNatClampNeg else b.toNatClampNeg := by split <;> rfl
section C21
variable {r : Rs} {f : Nat} {ki : Int32} {s : Int64} {rt : Int32} {P : Int64} {d t : Int32}
theorem en_pa (N i : Nat) : paR (enR r N f ki s rt P d t) i = if i = N then 0 else paR r i := by
  unfold paR ix; rw [en_6, if_clamp]; rfl
theorem en_fi (N i : Nat) : fiR (enR r N f ki s rt P d t) i = if i = N then 0 else fiR r i := by
  unfold fiR ix; rw [en_9, if_clamp]; rfl
theorem en_wh {N : Nat} (hN : N < 2 ^ 31) (i : Nat) : whR (enR r N f ki s rt P d t) i = if i = N then N else whR r i := by
  unfold whR ix; rw [en_5, if_clamp, nI_clamp hN]
theorem en_fo (N : Nat) (hf : f < 2 ^ 31) (i : Nat) : foR (enR r N f ki s rt P d t) i = if i = N then f else foR r i := by
  unfold foR ix; rw [en_4, if_clamp, nI_clamp hf]
theorem en_nE {N : Nat} (hN : N < 2 ^ 31) : nE (enR r N f ki s rt P d t) = N := nI_clamp hN
/-- sum, rate and day of a new entry are in their ranges -/
def EnO (r : Rs) (ki : Int32) (s : Int64) (rt d : Int32) : Prop := 0 ≤ s ∧ s ≤ 999999999999 ∧ (ki ≠ 4 → ki ≠ 6 → rt ≤ 200) ∧ 0 ≤ d ∧ d ≤ sS r 39
theorem en_lv0 (hI : RI r) (hn : nE r < 300) : lvs (fiR (enR r (nE r + 1) f ki s rt P d t)) (nE r + 1) = [nE r + 1] ∧ ∀ k, 1 ≤ k → k ≤ nE r → lvs (fiR (enR r (nE r + 1) f ki s rt P d t)) k = lvs (fiR r) k :=
  ⟨lvs_0 (by rw [en_fi, if_pos rfl]), lvs_ag (HT_of hI.1 hI.2.2.2.1) (fun e a b => by rw [en_fi, if_neg (by omega)])⟩
theorem en_RI (hI : RI r) (hn : nE r < 300) (hf : f < nF r) (hk1 : 1 ≤ ki) (hk6 : ki ≤ 6) (hrt : 0 ≤ rt) (ho : EnO r ki s rt d) : RI (enR r (nE r + 1) f ki s rt P d t) := by
  have hF := hI.1.1.2
  have hN : nE (enR r (nE r + 1) f ki s rt P d t) = nE r + 1 := en_nE (by omega)
  have hfr := hI.2.2.1.2.1 (nE r + 1) (by omega)
  refine ⟨⟨hI.1.1, ⟨?_, ?_⟩, hI.1.2.2⟩, hI.2.1, ⟨hI.2.2.1.1, fun e he => ?_, hI.2.2.1.2.2.1, fun e h1 h2 => ?_, fun e h1 h2 => ?_, fun e h1 h2 => ?_⟩, fun e h1 h2 => ?_, fun q h1 h2 => ?_, ⟨hI.2.2.2.2.2.1, hI.2.2.2.2.2.2.1, hI.2.2.2.2.2.2.2.1, hI.2.2.2.2.2.2.2.2.1, fun k h1 h2 h3 => ?_, fun q h1 h2 => ?_⟩⟩
  · rw [hN]; rfl
  · rw [hN]; omega
  · rw [hN] at he
    exact hI.2.2.1.2.1 e (by omega)
  · rw [hN] at h2
    rw [en_3, en_pa]
    by_cases he : e = nE r + 1
    · rw [if_pos he, if_pos he]; intro _; rfl
    · rw [if_neg he, if_neg he]; exact hI.2.2.1.2.2.2.1 e h1 (by omega)
  · rw [hN] at h2
    rw [en_11, en_pa]
    by_cases he : e = nE r + 1
    · rw [if_pos he, if_pos he]; intro _; exact hrt
    · rw [if_neg he, if_neg he]; exact hI.2.2.1.2.2.2.2.1 e h1 (by omega)
  · rw [hN] at h2
    have i24 : ix (enR r (nE r + 1) f ki s rt P d t) 24 e = ix r 24 e := rfl
    have r18 : rI (enR r (nE r + 1) f ki s rt P d t) 18 e = rI r 18 e := rfl
    obtain ⟨lv1, lv2⟩ := en_lv0 (f := f) (ki := ki) (s := s) (rt := rt) (P := P) (d := d) (t := t) hI hn
    rw [i24, r18]
    simp only [en_3, en_8, en_11, en_12, en_21, en_23, en_pa, en_fo (nE r + 1) (show f < 2 ^ 31 by omega)]
    by_cases he : e = nE r + 1
    · subst he
      have j24 : ix r 24 (nE r + 1) = 0 := by unfold ix; rw [hfr.2.2.1]; rfl
      have e8 : rJ (enR r (nE r + 1) f ki s rt P d t) 8 (nE r + 1) = if ki = 3 then 0 else s := by rw [en_8, if_pos rfl]
      have h8 : 0 ≤ (if ki = 3 then (0 : Int64) else s) ∧ (if ki = 3 then (0 : Int64) else s) ≤ 999999999999 := by
        split
        · exact ⟨by decide, by decide⟩
        · exact ⟨ho.1, ho.2.1⟩
      simp only [if_true, j24]
      refine ⟨⟨fun z => absurd rfl z, fun _ => trivial⟩, ⟨h8.1, fun _ => ⟨trivial, Int64.le_trans h8.2 (by decide), fun _ => h8.2⟩, fun _ _ => ?_⟩, fun _ => ⟨ho.2.2.1, by decide, by decide, ho.1, ho.2.1⟩⟩
      unfold lsum
      rw [lv1]
      show (rJ (enR r (nE r + 1) f ki s rt P d t) 8 (nE r + 1)).toInt + 0 ≤ _
      rw [e8]
      have := h8.2
      rw [Int64.le_iff_toInt_le] at this
      have zM : (999999999999 : Int64).toInt = 999999999999 := rfl
      rw [zM] at this; omega
    · have hx := hI.2.2.1.2.2.2.2.2 e h1 (by omega)
      have h24 := (hI.2.2.2.1 e h1 (by omega)).2.2.2.2.1
      have hne : ix r 24 e ≠ nE r + 1 := by omega
      have els : lsum (enR r (nE r + 1) f ki s rt P d t) e = lsum r e := by
        unfold lsum
        rw [lv2 e h1 (by omega)]
        congr 1
        refine List.map_congr_left (fun y hy => ?_)
        have := lvs_mem (HT_of hI.1 hI.2.2.2.1) e h1 (by omega) y hy
        rw [en_8, if_neg (by omega)]
      simp only [he, hne, if_false, els]
      exact hx
  · rw [hN] at h2
    unfold RIe
    simp only [en_3, en_4, en_5, en_6, en_9, en_21, en_pa, en_fi, en_wh (show nE r + 1 < 2 ^ 31 by omega), en_fo (nE r + 1) (show f < 2 ^ 31 by omega), hN]
    have i24 : ix (enR r (nE r + 1) f ki s rt P d t) 24 = ix r 24 := rfl
    have i25 : ix (enR r (nE r + 1) f ki s rt P d t) 25 = ix r 25 := rfl
    have r24 : rI (enR r (nE r + 1) f ki s rt P d t) 24 = rI r 24 := rfl
    have r25 : rI (enR r (nE r + 1) f ki s rt P d t) 25 = rI r 25 := rfl
    have hnF : nF (enR r (nE r + 1) f ki s rt P d t) = nF r := rfl
    rw [i24, i25, r24, r25, hnF]
    by_cases he : e = nE r + 1
    · subst he
      have j24 : ix r 24 (nE r + 1) = 0 := by unfold ix; rw [hfr.2.2.1]; rfl
      have j25 : ix r 25 (nE r + 1) = 0 := by unfold ix; rw [hfr.2.2.2.1]; rfl
      simp only [if_true, j24, j25, hfr.2.2.1, hfr.2.2.2.1]
      refine ⟨⟨trivial, trivial, rfl, rfl, rfl, rfl⟩, ⟨by omega, by omega, trivial, trivial, fun q => absurd rfl q⟩, ⟨by omega, fun q => absurd rfl q, fun q => absurd rfl q⟩, ⟨hf, trivial, trivial, hk1, hk6, fun _ => trivial⟩, ⟨by omega, by omega, Or.inl trivial, fun q => absurd rfl q, fun q => absurd rfl q⟩⟩
    · obtain ⟨a, b, c, g, h⟩ := hI.2.2.2.1 e h1 (by omega)
      have hw : whR r e ≠ nE r + 1 := by omega
      have hp : paR r e ≠ nE r + 1 := by omega
      simp only [he, hw, hp, if_false]
      refine ⟨a, b, ⟨c.1, fun q => c.2.1 q, fun q => ?_⟩, g, ⟨by omega, by omega, h.2.2.1, fun q => ?_, fun q => ?_⟩⟩
      · obtain ⟨y1, y2, y3, y4⟩ := c.2.2 q
        refine ⟨y1, by omega, ?_, ?_⟩
        · rw [if_neg (by omega)]; exact y3
        · rw [if_neg (by omega)]; exact y4
      · obtain ⟨y1, y2, y3, y4⟩ := h.2.2.2.1 q
        refine ⟨y1, y2, ?_, y4⟩
        split
        · rfl
        · exact y3
      · obtain ⟨y1, y2, y3, y4⟩ := h.2.2.2.2 q
        refine ⟨y1, y2, ?_, y4⟩
        split
        · rfl
        · exact y3
  · obtain ⟨a, b, c, g, h, i⟩ := hI.2.2.2.2.1 q h1 h2
    refine ⟨a, b, ?_, g, h, ?_⟩
    · rw [hN]; exact Nat.le_succ_of_le c
    · rw [hN]; exact Nat.le_succ_of_le i
  · rw [hN] at h2
    rw [en_pa] at h3
    rw [en_17]
    by_cases he : k = nE r + 1
    · rw [if_pos he]; exact ⟨ho.2.2.2.1, ho.2.2.2.2⟩
    · rw [if_neg he] at h3 ⊢; exact hI.2.2.2.2.2.2.2.2.2.1 k h1 (by omega) h3
  · have hp := hI.2.2.2.2.1 q h1 h2
    have hz := hI.2.2.2.2.2.2.2.2.2.2 q h1 h2
    have j31 : ix (enR r (nE r + 1) f ki s rt P d t) 31 q = ix r 31 q := rfl
    have j32 : ix (enR r (nE r + 1) f ki s rt P d t) 32 q = ix r 32 q := rfl
    have n1 : ¬ ix r 31 q = nE r + 1 := by have := hp.2.2.1; omega
    have n2 : ¬ ix r 32 q = nE r + 1 := by have := hp.2.2.2.2.2; omega
    rw [j31, j32, en_fo (nE r + 1) (show f < 2 ^ 31 by omega), en_fo (nE r + 1) (show f < 2 ^ 31 by omega), en_3, en_3, if_neg n1, if_neg n2, if_neg n1, if_neg n2]
    exact hz
theorem en_lvs (hI : RI r) (hn : nE r < 300) (hf : f < nF r) (hk1 : 1 ≤ ki) (hk6 : ki ≤ 6) (hrt : 0 ≤ rt) : lvs (fiR (enR r (nE r + 1) f ki s rt P d t)) (nE r + 1) = [nE r + 1] ∧ ∀ k, 1 ≤ k → k ≤ nE r → lvs (fiR (enR r (nE r + 1) f ki s rt P d t)) k = lvs (fiR r) k := en_lv0 hI hn
theorem insW_congr {r r' : Rs} {e : Nat} (he : rI r' 13 e = rI r 13 e) : ∀ l : List Nat, (∀ y ∈ l, rI r' 13 y = rI r 13 y) → insW r' e l = insW r e l := by
  intro l
  induction l with
  | nil => intro _; rw [insW_nil, insW_nil]
  | cons y t ih =>
    intro h
    rw [insW_cons, insW_cons, he, h y List.mem_cons_self, ih (fun z hz => h z (List.mem_cons_of_mem _ hz))]
theorem en_ch (hn : nE r < 300) (hf : f < 2 ^ 31) : (∀ g, g ≠ f → chF (enR r (nE r + 1) f ki s rt P d t) g = chF r g) ∧ chF (enR r (nE r + 1) f ki s rt P d t) f = insW (enR r (nE r + 1) f ki s rt P d t) (nE r + 1) (chF r f) := by
  have hN : nE (enR r (nE r + 1) f ki s rt P d t) = nE r + 1 := en_nE (by omega)
  have key : ∀ g n, n ≤ nE r → chN (enR r (nE r + 1) f ki s rt P d t) g n = chN r g n := by
    intro g n
    induction n with
    | zero => intro _; rfl
    | succ n ih =>
      intro hn'
      unfold chN
      rw [ih (by omega), en_pa, en_fo _ hf, if_neg (show ¬ n + 1 = nE r + 1 by omega), if_neg (show ¬ n + 1 = nE r + 1 by omega)]
      split
      · refine insW_congr ?_ _ (fun y hy => ?_)
        · rw [en_13, if_neg (by omega)]
        · have := chN_mem n hy
          rw [en_13, if_neg (by omega)]
      · rfl
  refine ⟨fun g hg => ?_, ?_⟩
  · unfold chF
    rw [hN]
    show (if _ then _ else _) = _
    rw [en_pa, en_fo _ hf, if_pos rfl, if_pos rfl, if_neg (fun z => hg z.2.symm)]
    exact key g _ (Nat.le_refl _)
  · unfold chF
    rw [hN]
    show (if _ then _ else _) = _
    rw [en_pa, en_fo _ hf, if_pos rfl, if_pos rfl, if_pos ⟨rfl, rfl⟩, key f _ (Nat.le_refl _)]
end C21
