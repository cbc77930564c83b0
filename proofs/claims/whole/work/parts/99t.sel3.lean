/-! ===== sell: leaves settled ===== -/
section T1
variable {X : Cx} {x m : Nat} {r0 r : Rs} {p f rq sq mo qa : Nat} {V : Wd}
/-- what stands while it is carried out: V the world at its start -/
def CO (V : Wd) (x : Nat) (r : Rs) (p f rq mo sq qa : Nat) (d h : Nat → Int64) : Prop := SQ V x r p f rq mo sq ∧ HaF r p f V x V d h ∧ wK V qa = 1 ∧ wI V 0 0 qa = sS r 39 ∧ wI V 0 1 qa = sS r 39
theorem fe_e (hV : AT V x m r0 r) {w : Wd} (hF : Fe V w) : eA w x = eA V x ∧ ∀ y, 1 ≤ y → y ≤ nE r → wA w x y = wA V x y := by
  have gx := hF.2 x (kz hV.2.2.1.1.1)
  have k17 := hV.2.2.1.1.2.2.2.1
  have ga := hF.2 (wR V 10 1 x) (by rw [k17]; decide)
  have e1 : eA w x = eA V x := by
    funext e; unfold eA
    rw [gx.2.2.2.1 10 1 (by omega)]
    exact ga.2.2.2.2 (by rw [k17]; decide) _
  refine ⟨e1, fun y y1 y2 => ?_⟩
  unfold wA
  rw [e1]
  exact (hF.2 _ (kz (hV.2.2.2.1.2.1 y y1 y2).1.1)).2.2.2.1 2 1 (by omega)
def lck (d h : Nat → Int64) (y : Nat) : Int64 := d y - h y
def nwS (r : Rs) (d h : Nat → Int64) (y : Nat) : Int64 := if rI r 3 y = 4 then lck d h y else mn (rJ r 8 y) (lck d h y)
/-- the leaves settled are leaves that had a place -/
def PP (r : Rs) (p f : Nat) (P : Nat → Bool) : Prop := ∀ y, P y = true → rkd r p f y = true ∧ 1 ≤ y ∧ y ≤ nE r
theorem sl_off (hI : RI r) {nw : Nat → Int64} {P K Q : Nat → Bool} (hp : p < 60) (hP : PP r p f P) : ∀ e, e ≤ nE r → (P e = true → False) → (fiR r e = 0 ∨ P e = false) → ∀ dy as : Int32, offB (slS r p nw P K Q) dy as p e = offB r dy as p e := by
  have hpa : paR (slS r p nw P K Q) = paR r := rfl
  intro e
  induction e using Nat.strongRecOn with
  | ind e ih =>
    intro he hPe _ dy as
    by_cases hc : e ≠ 0 ∧ paR r e < e
    · have hq : PP r p f P := hP
      have row : ∀ k, k = 28 ∨ k = 29 → rI (slS r p nw P K Q) k (60 * e + p) = rI r k (60 * e + p) := fun k hk => by
        show (if k = 17 ∧ _ = true then sS r 39 else if k = 18 ∧ _ = true ∧ _ then 1 else if (k = 28 ∨ k = 29) ∧ P ((60 * e + p) / 60) = true ∧ (60 * e + p) % 60 = p then sS r 39 else rI r k (60 * e + p)) = _
        rw [if_neg (fun q => by omega), if_neg (fun q => by omega), if_neg (fun q => hPe (by
          have := q.2.1
          rw [show (60 * e + p) / 60 = e by omega] at this; exact this))]
      rw [offB_p hc, offB_p (r := slS r p nw P K Q) (by rw [hpa]; exact hc), hpa, row 28 (Or.inl rfl), row 29 (Or.inr rfl)]
      have hpf : P (paR r e) = true → False := fun q => by
        have h1 := hP _ q
        by_cases h0 : paR r e = 0
        · rw [h0] at h1; omega
        · have hE := (hI.2.2.2.1 e (by omega) he).2.2.1.2.1 h0
          have := (rkd_iff.mp h1.1).1
          omega
      rw [ih _ hc.2 (by omega) hpf (by
        cases hq : P (paR r e) with
        | true => exact absurd hq (fun z => hpf z)
        | false => exact Or.inr rfl) dy as]
    · rw [offB_n hc, offB_n (r := slS r p nw P K Q) (by rw [hpa]; exact hc)]
theorem lck_ok (hI : RI r) {h : Nat → Int64} (hB : HB r p f h) {y : Nat} (hy : rkd r p f y = true) (y1 : 1 ≤ y) (y2 : y ≤ nE r) : 0 ≤ (lck (dS r p f) h y).toInt ∧ (lck (dS r p f) h y).toInt ≤ (dS r p f y).toInt ∧ (rI r 3 y = 4 → (dS r p f y).toInt ≤ 19999999999980) := by
  have hr := rkd_iff.mp hy
  obtain ⟨k1, k2, k3, -⟩ := inR_k hI hr.2
  have hlv := lvs_wh hI y1 y2 hr.1
  have hb := hB y hy
  have hd := (d_ok hI hr.2).1 y hlv
  have e : (lck (dS r p f) h y).toInt = (dS r p f y).toInt - (h y).toInt := i64_sub (by have := hb.1; have := hb.2; omega) (by have := hb.1; omega)
  refine ⟨by rw [e]; have := hb.2; omega, by rw [e]; have := hb.1; omega, fun h4 => ?_⟩
  have hE := hI.2.2.2.1 y y1 y2
  have hx := (hI.2.2.1.2.2.2.2.2 y y1 y2)
  have hpy := (hx.2.1.2.1 h4).1
  have hwy : whR r y = y := hE.2.1.2.2.2.1.mp hpy
  unfold dS duS
  rw [if_pos hy]
  split
  · decide
  · rw [hwy, lvs_0 hr.1]
    have e1 : dvs (dueF r y) (rJ r 8) 0 0 [y] y = dueF r y (0 + rJ r 8 y) - 0 := by show (if y = y then _ else _) = _; rw [if_pos rfl]
    rw [e1, Int64.zero_add, Int64.sub_zero]
    have n6 : rI r 3 y ≠ 6 := by rw [h4]; decide
    have h8 := hx.2.1.1
    have h8a := (hx.2.1.2.1 h4).2.1
    rw [Int64.le_iff_toInt_le] at h8 h8a
    rw [i64_0] at h8
    have zM : (19999999999980 : Int64).toInt = 19999999999980 := rfl
    have zN : (999999999999 : Int64).toInt = 999999999999 := rfl
    rw [zM] at h8a
    unfold dueF
    rw [if_neg n6, if_pos h4]
    by_cases h18 : rI r 18 y = 0
    · rw [if_pos h18]
      have h8b := (hx.2.1.2.1 h4).2.2 h18
      rw [Int64.le_iff_toInt_le, zN] at h8b
      have hy0 : 0 ≤ ((if rY r y < 20 then rY r y else 20).toInt64).toInt ∧ ((if rY r y < 20 then rY r y else 20).toInt64).toInt ≤ 20 := by
        rw [Int32.toInt_toInt64]
        have hr0 := hI.2.2.1.2.2.2.2.1 y y1 y2 hpy
        have t0 := hI.2.2.2.2.2.1
        have h0 : 0 ≤ (rY r y).toInt := by
          unfold rY
          split
          · decide
          · split
            · rename_i h1
              rw [Int32.lt_iff_toInt_lt] at h1
              rw [Int32.le_iff_toInt_le] at t0 hr0
              have z0 : (0 : Int32).toInt = 0 := rfl
              rw [z0] at t0 hr0
              have hm := Int32.toInt_lt (rI r 11 y)
              have es : (rI r 11 y - sS r 39).toInt = (rI r 11 y).toInt - (sS r 39).toInt := by
                rw [Int32.toInt_sub, Int.bmod_eq_of_le (by omega) (by omega)]
              have e365 : (365 : Int32).toInt = 365 := rfl
              rw [Int32.toInt_div, es, e365, Int.tdiv_eq_ediv_of_nonneg (by omega), Int.bmod_eq_of_le (by omega) (by omega)]
              omega
            · decide
        split
        · rename_i h; rw [Int32.lt_iff_toInt_lt] at h
          have e20 : (20 : Int32).toInt = 20 := rfl
          rw [e20] at h; omega
        · exact ⟨by decide, by decide⟩
      have hle : (rJ r 8 y).toInt * ((if rY r y < 20 then rY r y else 20).toInt64).toInt ≤ 999999999999 * 20 := Int.mul_le_mul h8b hy0.2 hy0.1 (by omega)
      rw [i64_mul (Int.mul_nonneg h8 hy0.1) (by omega)]
      omega
    · rw [if_neg h18]; omega
theorem sl_RIx (hI : RI r) {h : Nat → Int64} (hB : HB r p f h) {P K : Nat → Bool} (hI' : RI (slS r p (nwS r (dS r p f) h) P K K)) {y : Nat} (hy : rkd r p f y = true) (y1 : 1 ≤ y) (y2 : y ≤ nE r) (hPy : P y = false) (hK : K (whR r y) = true) : RIx (uJ (slS r p (nwS r (dS r p f) h) P K K) 8 y (nwS r (dS r p f) h y)) := by
  have hr := rkd_iff.mp hy
  obtain ⟨c1, c2, c3⟩ := lck_ok hI hB hy y1 y2
  have e8 : rJ (slS r p (nwS r (dS r p f) h) P K K) 8 y = rJ r 8 y := by
    show (if 8 = 8 ∧ P y = true then _ else rJ r 8 y) = _
    rw [if_neg (fun q => by rw [hPy] at q; exact absurd q.2 (by decide))]
  have e3 : rI (slS r p (nwS r (dS r p f) h) P K K) 3 y = rI r 3 y := rfl
  have h8 := (hI.2.2.1.2.2.2.2.2 y y1 y2).2.1.1
  rw [Int64.le_iff_toInt_le, i64_0] at h8
  refine RIx_8 hI' y1 y2 hr.1 _ ?_ (fun h4 => ?_) (fun h4 => ?_)
  · rw [Int64.le_iff_toInt_le, i64_0]
    unfold nwS
    split
    · exact c1
    · rw [mn_int]; omega
  · have h4' : rI r 3 y = 4 := h4
    have e : nwS r (dS r p f) h y = lck (dS r p f) h y := by unfold nwS; rw [if_pos h4']
    have hwy : whR r y = y := by
      have hpy := ((hI.2.2.1.2.2.2.2.2 y y1 y2).2.1.2.1 h4').1
      exact (hI.2.2.2.1 y y1 y2).2.1.2.2.2.1.mp hpy
    refine ⟨?_, fun h18 => ?_⟩
    · rw [e, Int64.le_iff_toInt_le]
      have := c3 h4'
      show _ ≤ (19999999999980 : Int)
      omega
    · have h18' : (if 18 = 17 ∧ K y = true then sS r 39 else if 18 = 18 ∧ K y = true ∧ rI r 3 y = 4 then (1 : Int32) else if (18 = 28 ∨ 18 = 29) ∧ P (y / 60) = true ∧ y % 60 = p then sS r 39 else rI r 18 y) = 0 := h18
      rw [hwy] at hK
      rw [if_neg (fun q => by omega), if_pos ⟨rfl, hK, h4'⟩] at h18'
      exact absurd h18' (by decide)
  · have h4' : rI r 3 y ≠ 4 := h4
    have hl := lsum_wh hI' y1 y2 h4
    rw [e8]
    have hle : (nwS r (dS r p f) h y).toInt ≤ (rJ r 8 y).toInt := by
      unfold nwS; rw [if_neg h4', mn_int]; omega
    omega
end T1
