/-! ===== the sale, purely: what is due ===== -/
theorem i64_add {a b : Int64} (h1 : -2 ^ 62 ≤ a.toInt + b.toInt) (h2 : a.toInt + b.toInt < 2 ^ 62) : (a + b).toInt = a.toInt + b.toInt := by
  rw [Int64.toInt_add, Int.bmod_eq_of_le (by omega) (by omega)]
theorem i64_sub {a b : Int64} (h1 : -2 ^ 62 ≤ a.toInt - b.toInt) (h2 : a.toInt - b.toInt < 2 ^ 62) : (a - b).toInt = a.toInt - b.toInt := by
  rw [Int64.toInt_sub, Int.bmod_eq_of_le (by omega) (by omega)]
theorem i64_mul {a b : Int64} (h1 : 0 ≤ a.toInt * b.toInt) (h2 : a.toInt * b.toInt < 2 ^ 62) : (a * b).toInt = a.toInt * b.toInt := by
  rw [Int64.toInt_mul, Int.bmod_eq_of_le (by omega) (by omega)]
theorem i64_div {a : Int64} (h1 : 0 ≤ a.toInt) (h2 : a.toInt < 2 ^ 62) : (a / 365000).toInt = a.toInt / 365000 := by
  have e : (365000 : Int64).toInt = 365000 := rfl
  rw [Int64.toInt_div, e, Int.tdiv_eq_ediv_of_nonneg h1, Int.bmod_eq_of_le (by omega) (by omega)]
/-- a due that grows with the sum -/
def Mon (g : Int64 → Int64) (S B : Int) : Prop := ∃ G : Int → Int, (∀ s : Int64, 0 ≤ s.toInt → s.toInt ≤ S → (g s).toInt = G s.toInt) ∧ (∀ x y, 0 ≤ x → x ≤ y → y ≤ S → G x ≤ G y) ∧ (∀ x, 0 ≤ x → x ≤ S → 0 ≤ G x ∧ G x ≤ B)
theorem dvs_ok {g : Int64 → Int64} {f : Nat → Int64} {S B : Int} (hS : S < 2 ^ 60) (hB : B < 2 ^ 60) (hB0 : 0 ≤ B) (hM : Mon g S B) : ∀ (l : List Nat) (s d : Int64), l.Nodup → (∀ y ∈ l, 0 ≤ (f y).toInt) → 0 ≤ s.toInt → s.toInt + (l.map (fun y => (f y).toInt)).sum ≤ S → 0 ≤ d.toInt → (d.toInt ≤ B ∧ ∀ t : Int64, s.toInt ≤ t.toInt → t.toInt ≤ S → d.toInt ≤ (g t).toInt) → (∀ y ∈ l, 0 ≤ (dvs g f s d l y).toInt) ∧ (l.map (fun y => (dvs g f s d l y).toInt)).sum + d.toInt ≤ B := by
  obtain ⟨G, g1, g2, g3⟩ := hM
  intro l
  induction l with
  | nil => intro s d _ _ _ _ _ hd; exact ⟨fun y hy => (by cases hy), by simpa using hd.1⟩
  | cons z t ih =>
    intro s d nd hf hs hsum hd hdl
    obtain ⟨n1, n2⟩ := List.nodup_cons.mp nd
    have hz := hf z List.mem_cons_self
    have ht := (sum_nn (f := fun y => (f y).toInt) t (fun y hy => hf y (List.mem_cons_of_mem _ hy))).1
    rw [List.map_cons, List.sum_cons] at hsum
    have es : (s + f z).toInt = s.toInt + (f z).toInt := i64_add (by omega) (by omega)
    have hle : d.toInt ≤ (g (s + f z)).toInt := hdl.2 _ (by omega) (by omega)
    have eg := g1 (s + f z) (by omega) (by omega)
    have hG := g3 (s + f z).toInt (by omega) (by omega)
    have ed : (g (s + f z) - d).toInt = (g (s + f z)).toInt - d.toInt := i64_sub (by omega) (by omega)
    obtain ⟨a, b⟩ := ih (s + f z) (g (s + f z)) n2 (fun y hy => hf y (List.mem_cons_of_mem _ hy)) (by omega) (by omega) (by omega) ⟨by omega, fun u hu1 hu2 => by
      rw [eg, g1 u (by omega) hu2]; exact g2 _ _ (by omega) hu1 hu2⟩
    have ez : dvs g f s d (z :: t) z = g (s + f z) - d := by show (if z = z then _ else _) = _; rw [if_pos rfl]
    have et : ∀ y ∈ t, dvs g f s d (z :: t) y = dvs g f (s + f z) (g (s + f z)) t y := fun y hy => by
      show (if y = z then _ else _) = _
      rw [if_neg (fun e => n1 (by rw [← e]; exact hy))]
    refine ⟨fun y hy => ?_, ?_⟩
    · rcases List.mem_cons.mp hy with e | e
      · rw [e, ez, ed]; omega
      · rw [et y e]; exact a y e
    · rw [List.map_cons, List.sum_cons, ez, ed, List.map_congr_left (fun y hy => by rw [et y hy])]
      omega
theorem mono_if {g : Int64 → Int64} {S B : Int} {t : Int64} (hM : Mon g S B) (ht : 0 ≤ t.toInt) : Mon (fun s => if g s < t then g s else t) S B := by
  obtain ⟨G, g1, g2, g3⟩ := hM
  refine ⟨fun x => min (G x) t.toInt, fun s h1 h2 => ?_, fun x y h1 h2 h3 => ?_, fun x h1 h2 => ?_⟩
  · have e := g1 s h1 h2
    show (if g s < t then g s else t).toInt = min (G s.toInt) t.toInt
    split
    · rename_i h; rw [Int64.lt_iff_toInt_lt] at h; omega
    · rename_i h; rw [Int64.lt_iff_toInt_lt] at h; omega
  · have := g2 x y h1 h2 h3
    show min (G x) t.toInt ≤ min (G y) t.toInt
    omega
  · have := g3 x h1 h2
    show 0 ≤ min (G x) t.toInt ∧ min (G x) t.toInt ≤ B
    omega
/-- how much a whole's leaves may owe together -/
def smx (r : Rs) (k : Nat) : Int := if rI r 3 k = 4 then 19999999999980 else 999999999999
theorem due_mon {r : Rs} (hI : RI r) {k : Nat} (k1 : 1 ≤ k) (k2 : k ≤ nE r) (k3 : paR r k = 0) : Mon (dueF r k) (smx r k) 399999999999600 := by
  have hx := (hI.2.2.1.2.2.2.2.2 k k1 k2).2.2 k3
  have hr0 := hI.2.2.1.2.2.2.2.1 k k1 k2 k3
  have hd := hI.2.2.2.2.2
  have h17 := hd.2.2.2.2.1 k k1 k2 k3
  have t0 := hd.1
  have t1 := hd.2.1
  unfold smx
  by_cases h6 : rI r 3 k = 6
  · have h4 : rI r 3 k ≠ 4 := by rw [h6]; decide
    rw [if_neg h4]
    refine ⟨fun _ => 0, fun s _ _ => ?_, fun _ _ _ _ _ => Int.le_refl _, fun _ _ _ => ⟨Int.le_refl _, by show (0 : Int) ≤ _; decide⟩⟩
    unfold dueF; rw [if_pos h6]; rfl
  by_cases h4 : rI r 3 k = 4
  · rw [if_pos h4]
    by_cases h18 : rI r 18 k = 0
    · have hy : 0 ≤ ((if rY r k < 20 then rY r k else 20).toInt64).toInt ∧ ((if rY r k < 20 then rY r k else 20).toInt64).toInt ≤ 20 := by
        rw [Int32.toInt_toInt64]
        have h0 : 0 ≤ (rY r k).toInt := by
          unfold rY
          split
          · decide
          · split
            · rename_i h1
              rw [Int32.lt_iff_toInt_lt] at h1
              rw [Int32.le_iff_toInt_le] at t0 hr0
              have z0 : (0 : Int32).toInt = 0 := rfl
              rw [z0] at t0 hr0
              have hm := Int32.toInt_lt (rI r 11 k)
              have es : (rI r 11 k - sS r 39).toInt = (rI r 11 k).toInt - (sS r 39).toInt := by
                rw [Int32.toInt_sub, Int.bmod_eq_of_le (by omega) (by omega)]
              have e365 : (365 : Int32).toInt = 365 := rfl
              rw [Int32.toInt_div, es, e365, Int.tdiv_eq_ediv_of_nonneg (by omega), Int.bmod_eq_of_le (by omega) (by omega)]
              omega
            · decide
        split
        · rename_i h; rw [Int32.lt_iff_toInt_lt] at h
          have e20 : (20 : Int32).toInt = 20 := rfl
          rw [e20] at h; omega
        · exact ⟨by decide, by decide⟩
      generalize hyy : ((if rY r k < 20 then rY r k else 20).toInt64) = Y at hy
      refine ⟨fun x => x * Y.toInt, fun s a b => ?_, fun x y a b c => Int.mul_le_mul_of_nonneg_right b hy.1, fun x a b => ⟨Int.mul_nonneg a hy.1, ?_⟩⟩
      · have e : dueF r k s = s * Y := by unfold dueF; rw [if_neg h6, if_pos h4, if_pos h18, hyy]
        have hle : s.toInt * Y.toInt ≤ 19999999999980 * 20 := Int.mul_le_mul b hy.2 hy.1 (by omega)
        rw [e]; exact i64_mul (Int.mul_nonneg a hy.1) (by omega)
      · have hle : x * Y.toInt ≤ 19999999999980 * 20 := Int.mul_le_mul b hy.2 hy.1 (by omega)
        show x * Y.toInt ≤ _
        omega
    · refine ⟨fun x => x, fun s a b => ?_, fun x y _ h _ => h, fun x a b => ⟨a, by show x ≤ _; omega⟩⟩
      unfold dueF; rw [if_neg h6, if_pos h4, if_neg h18]
  · rw [if_neg h4]
    have hrt := hx.1 h4 h6
    have y1 := hx.2.1
    have y2 := hx.2.2.1
    simp only [Int32.le_iff_toInt_le] at hrt y1 y2 t0 t1 h17 hr0
    have z0 : (0 : Int32).toInt = 0 := rfl
    have z1 : (1 : Int32).toInt = 1 := rfl
    have z30 : (30 : Int32).toInt = 30 := rfl
    have z200 : (200 : Int32).toInt = 200 := rfl
    have zd : (36500 : Int32).toInt = 36500 := rfl
    rw [z0] at t0 h17 hr0
    rw [z1] at y1
    rw [z30] at y2
    rw [z200] at hrt
    rw [zd] at t1
    have hdays : 0 ≤ ((if (sS r 39 - rI r 17 k) < (365 * rI r 21 k) then sS r 39 - rI r 17 k else 365 * rI r 21 k).toInt64).toInt ∧ ((if (sS r 39 - rI r 17 k) < (365 * rI r 21 k) then sS r 39 - rI r 17 k else 365 * rI r 21 k).toInt64).toInt ≤ 10950 := by
      rw [Int32.toInt_toInt64]
      have ea : (sS r 39 - rI r 17 k).toInt = (sS r 39).toInt - (rI r 17 k).toInt := by
        rw [Int32.toInt_sub, Int.bmod_eq_of_le (by omega) (by omega)]
      have e365 : (365 : Int32).toInt = 365 := rfl
      have eb : (365 * rI r 21 k).toInt = 365 * (rI r 21 k).toInt := by
        rw [Int32.toInt_mul, e365, Int.bmod_eq_of_le (by omega) (by omega)]
      split
      · rename_i h; rw [Int32.lt_iff_toInt_lt] at h; omega
      · omega
    generalize hdd : ((if (sS r 39 - rI r 17 k) < (365 * rI r 21 k) then sS r 39 - rI r 17 k else 365 * rI r 21 k).toInt64) = D at hdays
    have hR : ((rI r 11 k).toInt64).toInt = (rI r 11 k).toInt := Int32.toInt_toInt64 _
    have hi : Mon (iF r k) 999999999999 399999999999600 := by
      refine ⟨fun x => x + (x * (rI r 11 k).toInt * D.toInt) / 365000, fun s a b => ?_, fun x y a b c => ?_, fun x a b => ?_⟩
      · have m1 : s.toInt * (rI r 11 k).toInt ≤ 999999999999 * 200 := Int.mul_le_mul b hrt hr0 (by omega)
        have m0 : 0 ≤ s.toInt * (rI r 11 k).toInt := Int.mul_nonneg a hr0
        have e1 : (s * (rI r 11 k).toInt64).toInt = s.toInt * (rI r 11 k).toInt := by rw [i64_mul (by rw [hR]; exact m0) (by rw [hR]; omega), hR]
        have m2 : s.toInt * (rI r 11 k).toInt * D.toInt ≤ 999999999999 * 200 * 10950 := Int.mul_le_mul m1 hdays.2 hdays.1 (by omega)
        have m3 : 0 ≤ s.toInt * (rI r 11 k).toInt * D.toInt := Int.mul_nonneg m0 hdays.1
        have e2 : ((s * (rI r 11 k).toInt64) * D).toInt = s.toInt * (rI r 11 k).toInt * D.toInt := by rw [i64_mul (by rw [e1]; exact m3) (by rw [e1]; omega), e1]
        have e3 := i64_div (a := (s * (rI r 11 k).toInt64) * D) (by rw [e2]; exact m3) (by rw [e2]; omega)
        unfold iF
        rw [hdd, i64_add (by rw [e3, e2]; omega) (by rw [e3, e2]; omega), e3, e2]
      · have m1 : x * (rI r 11 k).toInt * D.toInt ≤ y * (rI r 11 k).toInt * D.toInt := Int.mul_le_mul_of_nonneg_right (Int.mul_le_mul_of_nonneg_right b hr0) hdays.1
        show x + _ / 365000 ≤ y + _ / 365000
        have := Int.ediv_le_ediv (c := 365000) (by omega) m1
        omega
      · have m1 : x * (rI r 11 k).toInt ≤ 999999999999 * 200 := Int.mul_le_mul b hrt hr0 (by omega)
        have m0 : 0 ≤ x * (rI r 11 k).toInt := Int.mul_nonneg a hr0
        have m2 : x * (rI r 11 k).toInt * D.toInt ≤ 999999999999 * 200 * 10950 := Int.mul_le_mul m1 hdays.2 hdays.1 (by omega)
        have m3 : 0 ≤ x * (rI r 11 k).toInt * D.toInt := Int.mul_nonneg m0 hdays.1
        show 0 ≤ x + _ / 365000 ∧ x + _ / 365000 ≤ _
        omega
    by_cases h3 : rI r 3 k = 3
    · have ht : 0 ≤ (rJ r 12 k).toInt := by have := hx.2.2.2.1; rw [Int64.le_iff_toInt_le] at this; exact this
      obtain ⟨G, g1, g2, g3⟩ := mono_if (t := rJ r 12 k) hi ht
      refine ⟨G, fun s a b => ?_, g2, g3⟩
      rw [← g1 s a b]
      unfold dueF; rw [if_neg h6, if_neg h4, if_pos h3]
    · obtain ⟨G, g1, g2, g3⟩ := hi
      refine ⟨G, fun s a b => ?_, g2, g3⟩
      rw [← g1 s a b]
      unfold dueF; rw [if_neg h6, if_neg h4, if_neg h3]
/-- what is due to a leaf at a sale of p -/
def duS (r : Rs) (p y : Nat) : Int64 := if offB r (sS r 39) (sS r 39) p y = true then 0 else dvs (dueF r (whR r y)) (rJ r 8) 0 0 (lvs (fiR r) (whR r y)) y
theorem lsum_le {r : Rs} (hI : RI r) {k : Nat} (k1 : 1 ≤ k) (k2 : k ≤ nE r) (k3 : paR r k = 0) : 0 ≤ lsum r k ∧ lsum r k ≤ smx r k := by
  have H := HT_of hI.1 hI.2.2.2.1
  have hx := (hI.2.2.1.2.2.2.2.2 k k1 k2).2.1
  have hn : ∀ y ∈ lvs (fiR r) k, 0 ≤ (rJ r 8 y).toInt := fun y hy => by
    have hm := lvs_mem H k k1 k2 y hy
    have := (hI.2.2.1.2.2.2.2.2 y (by omega) hm.2.2.2).2.1.1
    rw [Int64.le_iff_toInt_le] at this; exact this
  refine ⟨(sum_nn (f := fun y => (rJ r 8 y).toInt) _ hn).1, ?_⟩
  unfold smx
  by_cases h4 : rI r 3 k = 4
  · rw [if_pos h4]
    have hfi : fiR r k = 0 := by
      apply Classical.byContradiction; intro z
      have hk := H.kids k1 k2 z
      have hE := hI.2.2.2.1 (fiR r k) (by omega) (by omega)
      have hw : whR r (fiR r k) = k := by
        have := hE.2.1.2.2.2.2 (by rw [hk.2.2.2.1]; omega)
        rw [hk.2.2.2.1] at this
        rw [← this]; exact (hI.2.2.2.1 k k1 k2).2.1.2.2.2.1.mp k3
      have h4' : rI r 3 (fiR r k) = 4 := by rw [hE.2.2.2.1.2.2.1, hw]; exact h4
      have := ((hI.2.2.1.2.2.2.2.2 (fiR r k) (by omega) (by omega)).2.1.2.1 h4').1
      rw [hk.2.2.2.1] at this; omega
    unfold lsum
    rw [lvs_0 hfi]
    have := (hx.2.1 h4).2.1
    rw [Int64.le_iff_toInt_le] at this
    have zM : (19999999999980 : Int64).toInt = 19999999999980 := rfl
    rw [zM] at this
    simpa using this
  · rw [if_neg h4]; exact hx.2.2 k3 h4
theorem sum_le {f g : Nat → Int} : ∀ l : List Nat, (∀ y ∈ l, f y ≤ g y) → (l.map f).sum ≤ (l.map g).sum := by
  intro l
  induction l with
  | nil => intro _; exact Int.le_refl _
  | cons y t ih =>
    intro h
    rw [List.map_cons, List.sum_cons, List.map_cons, List.sum_cons]
    have := ih (fun u hu => h u (List.mem_cons_of_mem _ hu))
    have := h y List.mem_cons_self
    omega
theorem nn_8 {r : Rs} (hI : RI r) {k : Nat} (k1 : 1 ≤ k) (k2 : k ≤ nE r) : ∀ y ∈ lvs (fiR r) k, 0 ≤ (rJ r 8 y).toInt := fun y hy => by
  have hm := lvs_mem (HT_of hI.1 hI.2.2.2.1) k k1 k2 y hy
  have := (hI.2.2.1.2.2.2.2.2 y (by omega) hm.2.2.2).2.1.1
  rw [Int64.le_iff_toInt_le] at this; exact this
theorem i64_0 : (0 : Int64).toInt = 0 := rfl
theorem du_raw {r : Rs} (hI : RI r) {k : Nat} (k1 : 1 ≤ k) (k2 : k ≤ nE r) (k3 : paR r k = 0) : (∀ y ∈ lvs (fiR r) k, 0 ≤ (dvs (dueF r k) (rJ r 8) 0 0 (lvs (fiR r) k) y).toInt) ∧ ((lvs (fiR r) k).map (fun y => (dvs (dueF r k) (rJ r 8) 0 0 (lvs (fiR r) k) y).toInt)).sum ≤ 399999999999600 := by
  have hS : smx r k < 2 ^ 60 := by unfold smx; split <;> decide
  have hM := due_mon hI k1 k2 k3
  have h2 : (0 : Int64).toInt + ((lvs (fiR r) k).map (fun y => (rJ r 8 y).toInt)).sum ≤ smx r k := by
    rw [i64_0, Int.zero_add]; exact (lsum_le hI k1 k2 k3).2
  have h3 : ∀ t : Int64, (0 : Int64).toInt ≤ t.toInt → t.toInt ≤ smx r k → (0 : Int64).toInt ≤ (dueF r k t).toInt := fun t a b => by
    obtain ⟨G, g1, g2, g3⟩ := hM
    rw [i64_0] at a ⊢
    rw [g1 t a b]; exact (g3 _ a b).1
  obtain ⟨a, b⟩ := dvs_ok hS (by decide) (by decide) hM (lvs (fiR r) k) 0 0 (lvs_nodup (HT_of hI.1 hI.2.2.2.1) k k1 k2) (nn_8 hI k1 k2) (Int.le_refl _) h2 (Int.le_refl _) ⟨by rw [i64_0]; decide, h3⟩
  rw [i64_0, Int.add_zero] at b
  exact ⟨a, b⟩
theorem lv_wh {r : Rs} (hI : RI r) {k : Nat} (k1 : 1 ≤ k) (k2 : k ≤ nE r) (k3 : paR r k = 0) {y : Nat} (hy : y ∈ lvs (fiR r) k) : whR r y = k ∧ 1 ≤ y ∧ y ≤ nE r ∧ fiR r y = 0 := by
  have hm := lvs_mem (HT_of hI.1 hI.2.2.2.1) k k1 k2 y hy
  exact ⟨blw_un hI.2.2.2.1 k3 y (by omega) hm.2.2.2 hm.1, by omega, hm.2.2.2, hm.2.1⟩
theorem du_ok {r : Rs} (hI : RI r) (p : Nat) {k : Nat} (k1 : 1 ≤ k) (k2 : k ≤ nE r) (k3 : paR r k = 0) : (∀ y ∈ lvs (fiR r) k, 0 ≤ (duS r p y).toInt) ∧ ((lvs (fiR r) k).map (fun y => (duS r p y).toInt)).sum ≤ 399999999999600 := by
  obtain ⟨a, b⟩ := du_raw hI k1 k2 k3
  have le : ∀ y ∈ lvs (fiR r) k, 0 ≤ (duS r p y).toInt ∧ (duS r p y).toInt ≤ (dvs (dueF r k) (rJ r 8) 0 0 (lvs (fiR r) k) y).toInt := fun y hy => by
    have h := a y hy
    unfold duS
    rw [(lv_wh hI k1 k2 k3 hy).1]
    split
    · exact ⟨Int.le_refl _, h⟩
    · exact ⟨h, Int.le_refl _⟩
  exact ⟨fun y hy => (le y hy).1, Int.le_trans (sum_le _ (fun y hy => (le y hy).2)) b⟩
