/-! ===== the sale, purely: what each gets ===== -/
def mn (a b : Int64) : Int64 := if a < b then a else b
def upJ (h : Nat → Int64) (y : Nat) (v : Int64) : Nat → Int64 := fun j => if j = y then v else h j
def getL (d : Nat → Int64) : List Nat → Int64 → (Nat → Int64) → (Nat → Int64) × Int64
  | [], o, h => (h, o)
  | y :: t, o, h => getL d t (o - mn (d y - h y) o) (upJ h y (h y + mn (d y - h y) o))
def givL : List Nat → Int64 → (Nat → Int64) → (Nat → Int64)
  | [], _, h => h
  | y :: t, o, h => givL t (o - mn (h y) o) (upJ h y (h y - mn (h y) o))
theorem mn_int (a b : Int64) : (mn a b).toInt = min a.toInt b.toInt := by
  unfold mn
  split
  · rename_i h; rw [Int64.lt_iff_toInt_lt] at h; omega
  · rename_i h; rw [Int64.lt_iff_toInt_lt] at h; omega
theorem mn_sw (a b c : Int64) : mn (mn a b) c = mn (mn a c) b := Int64.toInt_inj.mp (by rw [mn_int, mn_int, mn_int, mn_int]; omega)
def Bd (d h : Nat → Int64) (y : Nat) : Prop := 0 ≤ (h y).toInt ∧ (h y).toInt ≤ (d y).toInt
theorem getL_min {d : Nat → Int64} : ∀ (l : List Nat) (h : Nat → Int64) (o o' : Int64), l.Nodup → (∀ y ∈ l, Bd d h y ∧ (d y).toInt < 2 ^ 60) → (l.map (fun y => (d y).toInt - (h y).toInt)).sum < 2 ^ 60 → 0 ≤ o.toInt → o.toInt < 2 ^ 60 → o'.toInt = min o.toInt (l.map (fun y => (d y).toInt - (h y).toInt)).sum →
    (getL d l o h).1 = (getL d l o' h).1 ∧ (getL d l o h).2.toInt = o.toInt - min o.toInt (l.map (fun y => (d y).toInt - (h y).toInt)).sum ∧ (∀ y ∈ l, Bd d (getL d l o h).1 y) ∧ ∀ y, y ∉ l → (getL d l o h).1 y = h y := by
  intro l
  induction l with
  | nil =>
    intro h o o' _ _ _ h0 _ ho'
    refine ⟨rfl, ?_, fun y hy => (by cases hy), fun _ _ => rfl⟩
    show o.toInt = o.toInt - min o.toInt 0
    omega
  | cons y t ih =>
    intro h o o' nd hb hS h0 h1 ho'
    obtain ⟨n1, n2⟩ := List.nodup_cons.mp nd
    obtain ⟨⟨b1, b2⟩, b3⟩ := hb y List.mem_cons_self
    rw [List.map_cons, List.sum_cons] at hS ho' ⊢
    have hnn := (sum_nn (f := fun y => (d y).toInt - (h y).toInt) t (fun z hz => by have := (hb z (List.mem_cons_of_mem _ hz)).1; have a := this.1; have b := this.2; show 0 ≤ (d z).toInt - (h z).toInt; omega)).1
    have ec : (d y - h y).toInt = (d y).toInt - (h y).toInt := i64_sub (by omega) (by omega)
    have hcong : ∀ v, t.map (fun z => (d z).toInt - (upJ h y v z).toInt) = t.map (fun z => (d z).toInt - (h z).toInt) := fun v => List.map_congr_left (fun z hz => by
      have : upJ h y v z = h z := by unfold upJ; rw [if_neg (fun e => n1 (by rw [← e]; exact hz))]
      rw [this])
    have hp := mn_int (d y - h y) o
    have hp' := mn_int (d y - h y) o'
    have epp : mn (d y - h y) o' = mn (d y - h y) o := Int64.toInt_inj.mp (by rw [hp, hp', ec, ho']; omega)
    have eo : (o - mn (d y - h y) o).toInt = o.toInt - (mn (d y - h y) o).toInt := i64_sub (by omega) (by omega)
    have eo' : (o' - mn (d y - h y) o).toInt = o'.toInt - (mn (d y - h y) o).toInt := i64_sub (by omega) (by omega)
    have ev : (h y + mn (d y - h y) o).toInt = (h y).toInt + (mn (d y - h y) o).toInt := i64_add (by omega) (by omega)
    obtain ⟨a1, a2, a3, a4⟩ := ih (upJ h y (h y + mn (d y - h y) o)) (o - mn (d y - h y) o) (o' - mn (d y - h y) o) n2 (fun z hz => by
      have := hb z (List.mem_cons_of_mem _ hz)
      have e : upJ h y (h y + mn (d y - h y) o) z = h z := by unfold upJ; rw [if_neg (fun e => n1 (by rw [← e]; exact hz))]
      unfold Bd at *; rw [e]; exact this) (by rw [hcong]; omega) (by omega) (by omega) (by rw [hcong, eo, eo']; omega)
    refine ⟨?_, ?_, fun z hz => ?_, fun z hz => ?_⟩
    · show (getL d t _ _).1 = (getL d t _ _).1
      rw [epp]; exact a1
    · show (getL d t _ _).2.toInt = _
      rw [a2, hcong, eo]; omega
    · show Bd d (getL d t _ _).1 z
      rcases List.mem_cons.mp hz with e | e
      · subst e
        unfold Bd
        rw [a4 z n1]
        have : upJ h z (h z + mn (d z - h z) o) z = h z + mn (d z - h z) o := by unfold upJ; rw [if_pos rfl]
        rw [this, ev]; omega
      · exact a3 z e
    · show (getL d t _ _).1 z = h z
      rw [a4 z (fun q => hz (List.mem_cons_of_mem _ q))]
      unfold upJ; rw [if_neg (fun e => hz (by rw [e]; exact List.mem_cons_self))]
theorem givL_ok {d : Nat → Int64} : ∀ (l : List Nat) (h : Nat → Int64) (o : Int64), l.Nodup → (∀ y ∈ l, Bd d h y ∧ (d y).toInt < 2 ^ 60) → 0 ≤ o.toInt → o.toInt < 2 ^ 60 → (∀ y ∈ l, Bd d (givL l o h) y) ∧ ∀ y, y ∉ l → givL l o h y = h y := by
  intro l
  induction l with
  | nil => intro h o _ _ _ _; exact ⟨fun y hy => (by cases hy), fun _ _ => rfl⟩
  | cons y t ih =>
    intro h o nd hb h0 h1
    obtain ⟨n1, n2⟩ := List.nodup_cons.mp nd
    obtain ⟨⟨b1, b2⟩, b3⟩ := hb y List.mem_cons_self
    have hp := mn_int (h y) o
    have eo : (o - mn (h y) o).toInt = o.toInt - (mn (h y) o).toInt := i64_sub (by omega) (by omega)
    have ev : (h y - mn (h y) o).toInt = (h y).toInt - (mn (h y) o).toInt := i64_sub (by omega) (by omega)
    obtain ⟨a3, a4⟩ := ih (upJ h y (h y - mn (h y) o)) (o - mn (h y) o) n2 (fun z hz => by
      have := hb z (List.mem_cons_of_mem _ hz)
      have e : upJ h y (h y - mn (h y) o) z = h z := by unfold upJ; rw [if_neg (fun e => n1 (by rw [← e]; exact hz))]
      unfold Bd at *; rw [e]; exact this) (by omega) (by omega)
    refine ⟨fun z hz => ?_, fun z hz => ?_⟩
    · show Bd d (givL t _ _) z
      rcases List.mem_cons.mp hz with e | e
      · subst e
        unfold Bd
        rw [a4 z n1]
        have : upJ h z (h z - mn (h z) o) z = h z - mn (h z) o := by unfold upJ; rw [if_pos rfl]
        rw [this, ev]; omega
      · exact a3 z e
    · show givL t _ _ z = h z
      rw [a4 z (fun q => hz (List.mem_cons_of_mem _ q))]
      unfold upJ; rw [if_neg (fun e => hz (by rw [e]; exact List.mem_cons_self))]
/-- one place is paid -/
def payM (r : Rs) (left : Int64) (w : Nat) : Int64 := if rI r 3 w = 6 then mn (rJ r 8 w) left else left
def payS (r : Rs) (d : Nat → Int64) (s : (Nat → Int64) × Int64) (w : Nat) : (Nat → Int64) × Int64 := ((getL d (lvs (fiR r) (own r w)) (payM r s.2 w) s.1).1, s.2 - (payM r s.2 w - (getL d (lvs (fiR r) (own r w)) (payM r s.2 w) s.1).2))
/-- one post is heeded -/
def gwX (r : Rs) (d h : Nat → Int64) (q : Nat) : Int64 := mn (mn (sumF d 0 (lvs (fiR r) (ix r 32 q))) (sumF h 0 (lvs (fiR r) (ix r 31 q)))) (rJ r 33 q)
def gwY (r : Rs) (d h : Nat → Int64) (q : Nat) : Int64 := mn (sumF h 0 (lvs (fiR r) (ix r 32 q))) (gwX r d h q)
def gwS (r : Rs) (d h : Nat → Int64) (q : Nat) : Nat → Int64 := (getL d (lvs (fiR r) (ix r 31 q)) (gwY r d h q) (getL d (lvs (fiR r) (ix r 32 q)) (gwX r d h q) (givL (lvs (fiR r) (ix r 32 q)).reverse (gwY r d h q) (givL (lvs (fiR r) (ix r 31 q)).reverse (gwX r d h q) h))).1).1
def gwI (r : Rs) (d : Nat → Int64) (p f : Nat) (h : Nat → Int64) (q : Nat) : Nat → Int64 := if cntP r (sS r 39) (sS r 39) p f q = true then gwS r d h q else h
/-- dues of the leaves of those that have a place -/
def rkd (r : Rs) (p f y : Nat) : Bool := decide (fiR r y = 0) && (ordS r (sS r 39) (sS r 39) p f).1.contains (whR r y)
def dS (r : Rs) (p f : Nat) (y : Nat) : Int64 := if rkd r p f y = true then duS r p y else 0
def payA (r : Rs) (p f : Nat) (left : Int64) : (Nat → Int64) × Int64 := (PLs r (sS r 39) (sS r 39) p f).foldl (payS r (dS r p f)) (fun _ => 0, left)
def hasA (r : Rs) (p f : Nat) (left : Int64) : Nat → Int64 := (pos r).foldl (gwI r (dS r p f) p f) (payA r p f left).1
section S2
variable {r : Rs} {p f : Nat}
abbrev inR (r : Rs) (p f k : Nat) : Prop := k ∈ (ordS r (sS r 39) (sS r 39) p f).1
theorem inR_k (hI : RI r) {k : Nat} (h : inR r p f k) : 1 ≤ k ∧ k ≤ nE r ∧ paR r k = 0 ∧ foR r k = f ∧ rI r 3 k ≠ 6 ∧ k ∈ chF r f ∧ liesB r (sS r 39) (sS r 39) k p = true := by
  have h1 := OLs_ch hI (((ordS_ok hI).2 k).mp h)
  have h2 := chF_mem.mp h1.1
  exact ⟨h2.1, h2.2.1, h2.2.2.1, h2.2.2.2, h1.2.2, h1.1, h1.2.1⟩
theorem rkd_iff {y : Nat} : rkd r p f y = true ↔ fiR r y = 0 ∧ inR r p f (whR r y) := by
  unfold rkd inR; simp
theorem rkd_lv (hI : RI r) {k y : Nat} (h : inR r p f k) (hy : y ∈ lvs (fiR r) k) : rkd r p f y = true := by
  obtain ⟨k1, k2, k3, -⟩ := inR_k hI h
  have := lv_wh hI k1 k2 k3 hy
  exact rkd_iff.mpr ⟨this.2.2.2, by rw [this.1]; exact h⟩
theorem d_ok (hI : RI r) {k : Nat} (h : inR r p f k) : (∀ y ∈ lvs (fiR r) k, 0 ≤ (dS r p f y).toInt ∧ (dS r p f y).toInt < 2 ^ 60) ∧ ((lvs (fiR r) k).map (fun y => (dS r p f y).toInt)).sum ≤ 399999999999600 := by
  obtain ⟨k1, k2, k3, -⟩ := inR_k hI h
  obtain ⟨a, b⟩ := du_ok hI p k1 k2 k3
  have e : ∀ y ∈ lvs (fiR r) k, dS r p f y = duS r p y := fun y hy => by unfold dS; rw [if_pos (rkd_lv hI h hy)]
  have hs := sum_nn (f := fun y => (duS r p y).toInt) _ a
  refine ⟨fun y hy => ?_, ?_⟩
  · rw [e y hy]
    have := hs.2 y hy
    exact ⟨a y hy, by omega⟩
  · rw [List.map_congr_left (fun y hy => by rw [e y hy])]; exact b
/-- the leaves below an entry of one that has a place -/
theorem lvq_sub (hI : RI r) {e : Nat} (h1 : 1 ≤ e) (h2 : e ≤ nE r) : ∀ y ∈ lvs (fiR r) e, y ∈ lvs (fiR r) (whR r e) := fun y hy => by
  have hE := hI.2.2.2.1 e h1 h2
  have := lvs_filter (HT_of hI.1 hI.2.2.2.1) h1 h2 (whR r e) hE.2.1.1 (Nat.le_trans hE.2.1.2.1 h2) (blw_root hI.2.2.2.1 e h1 h2)
  rw [← this] at hy
  exact (List.mem_filter.mp hy).1
theorem sub_sum {g : Nat → Int} {q : Nat → Bool} : ∀ l : List Nat, (∀ y ∈ l, 0 ≤ g y) → ((l.filter q).map g).sum ≤ (l.map g).sum := by
  intro l
  induction l with
  | nil => intro _; exact Int.le_refl _
  | cons y t ih =>
    intro h
    have h1 := ih (fun z hz => h z (List.mem_cons_of_mem _ hz))
    have h2 := h y List.mem_cons_self
    rw [List.filter_cons]
    split
    · rw [List.map_cons, List.sum_cons, List.map_cons, List.sum_cons]; omega
    · rw [List.map_cons, List.sum_cons]; omega
theorem d_sub (hI : RI r) {e : Nat} (h1 : 1 ≤ e) (h2 : e ≤ nE r) (h : inR r p f (whR r e)) : ((lvs (fiR r) e).map (fun y => (dS r p f y).toInt)).sum ≤ 399999999999600 := by
  have hE := hI.2.2.2.1 e h1 h2
  have e1 := lvs_filter (HT_of hI.1 hI.2.2.2.1) h1 h2 (whR r e) hE.2.1.1 (Nat.le_trans hE.2.1.2.1 h2) (blw_root hI.2.2.2.1 e h1 h2)
  rw [← e1]
  have := d_ok hI h
  exact Int.le_trans (sub_sum _ (fun y hy => (this.1 y hy).1)) this.2
/-- in bounds -/
def HB (r : Rs) (p f : Nat) (h : Nat → Int64) : Prop := ∀ y, rkd r p f y = true → Bd (dS r p f) h y
theorem hb_lv (hI : RI r) {h : Nat → Int64} (hB : HB r p f h) {e : Nat} (h1 : 1 ≤ e) (h2 : e ≤ nE r) (hk : inR r p f (whR r e)) : ∀ y ∈ lvs (fiR r) e, Bd (dS r p f) h y ∧ (dS r p f y).toInt < 2 ^ 60 := fun y hy => by
  have hy' := lvq_sub hI h1 h2 y hy
  exact ⟨hB y (rkd_lv hI hk hy'), ((d_ok hI hk).1 y hy').2⟩
theorem diff_sum {a b : Nat → Int} : ∀ l : List Nat, (l.map (fun y => a y - b y)).sum = (l.map a).sum - (l.map b).sum := by
  intro l
  induction l with
  | nil => rfl
  | cons y t ih => rw [List.map_cons, List.sum_cons, List.map_cons, List.sum_cons, List.map_cons, List.sum_cons, ih]; omega
theorem open_int (hI : RI r) {h : Nat → Int64} (hB : HB r p f h) {e : Nat} (h1 : 1 ≤ e) (h2 : e ≤ nE r) (hk : inR r p f (whR r e)) : (sumF (dS r p f) 0 (lvs (fiR r) e)).toInt = ((lvs (fiR r) e).map (fun y => (dS r p f y).toInt)).sum ∧ (sumF h 0 (lvs (fiR r) e)).toInt = ((lvs (fiR r) e).map (fun y => (h y).toInt)).sum ∧ 0 ≤ ((lvs (fiR r) e).map (fun y => (h y).toInt)).sum ∧ ((lvs (fiR r) e).map (fun y => (h y).toInt)).sum ≤ ((lvs (fiR r) e).map (fun y => (dS r p f y).toInt)).sum ∧ ((lvs (fiR r) e).map (fun y => (dS r p f y).toInt)).sum ≤ 399999999999600 := by
  have hb := hb_lv hI hB h1 h2 hk
  have hs := d_sub hI h1 h2 hk
  have h0 : ∀ y ∈ lvs (fiR r) e, 0 ≤ (h y).toInt := fun y hy => (hb y hy).1.1
  have d0 : ∀ y ∈ lvs (fiR r) e, 0 ≤ (dS r p f y).toInt := fun y hy => Int.le_trans (hb y hy).1.1 (hb y hy).1.2
  have hle : ((lvs (fiR r) e).map (fun y => (h y).toInt)).sum ≤ ((lvs (fiR r) e).map (fun y => (dS r p f y).toInt)).sum := sum_le _ (fun y hy => (hb y hy).1.2)
  have a := (sum_nn (f := fun y => (h y).toInt) _ h0).1
  refine ⟨?_, ?_, a, hle, hs⟩
  · rw [sumF_gen (dS r p f) _ 0 (by rw [i64_0]; omega) d0 (by rw [i64_0]; omega), i64_0, Int.zero_add]
  · rw [sumF_gen h _ 0 (by rw [i64_0]; omega) h0 (by rw [i64_0]; omega), i64_0, Int.zero_add]
theorem HB_get (hI : RI r) {h : Nat → Int64} (hB : HB r p f h) {e : Nat} (h1 : 1 ≤ e) (h2 : e ≤ nE r) (hk : inR r p f (whR r e)) (o : Int64) (o0 : 0 ≤ o.toInt) (o1 : o.toInt < 2 ^ 60) : HB r p f (getL (dS r p f) (lvs (fiR r) e) o h).1 := by
  obtain ⟨e1, e2, e3, e4, e5⟩ := open_int hI hB h1 h2 hk
  have hb := hb_lv hI hB h1 h2 hk
  have hS : ((lvs (fiR r) e).map (fun y => (dS r p f y).toInt - (h y).toInt)).sum < 2 ^ 60 := by rw [diff_sum]; omega
  have e6 : ((mn o (sumF (dS r p f) 0 (lvs (fiR r) e) - sumF h 0 (lvs (fiR r) e)))).toInt = min o.toInt ((lvs (fiR r) e).map (fun y => (dS r p f y).toInt - (h y).toInt)).sum := by
    rw [mn_int, i64_sub (by omega) (by omega), e1, e2, diff_sum]
  obtain ⟨-, -, a3, a4⟩ := getL_min _ h o _ (lvs_nodup (HT_of hI.1 hI.2.2.2.1) e h1 h2) hb hS o0 o1 e6
  intro y hy
  by_cases hm : y ∈ lvs (fiR r) e
  · exact a3 y hm
  · unfold Bd; rw [a4 y hm]; exact hB y hy
theorem HB_giv (hI : RI r) {h : Nat → Int64} (hB : HB r p f h) {e : Nat} (h1 : 1 ≤ e) (h2 : e ≤ nE r) (hk : inR r p f (whR r e)) (o : Int64) (o0 : 0 ≤ o.toInt) (o1 : o.toInt < 2 ^ 60) : HB r p f (givL (lvs (fiR r) e).reverse o h) := by
  have hb := hb_lv hI hB h1 h2 hk
  obtain ⟨a3, a4⟩ := givL_ok (d := dS r p f) (lvs (fiR r) e).reverse h o (List.pairwise_reverse.mpr ((lvs_nodup (HT_of hI.1 hI.2.2.2.1) e h1 h2).imp (fun h => Ne.symm h))) (fun y hy => hb y (List.mem_reverse.mp hy)) o0 o1
  intro y hy
  by_cases hm : y ∈ (lvs (fiR r) e).reverse
  · exact a3 y hm
  · unfold Bd; rw [a4 y hm]; exact hB y hy
/-- the reference pays by its own sum, to the same effect -/
theorem pay_eq (hI : RI r) {h : Nat → Int64} {left : Int64} (hB : HB r p f h) (l0 : 0 ≤ left.toInt) (l1 : left.toInt ≤ 999999999999) {w : Nat} (hw : vW r w) (hk : inR r p f (own r w)) :
    (getL (dS r p f) (lvs (fiR r) (own r w)) (mn (if rI r 3 w = 6 then mn (rJ r 8 w) (sumF (dS r p f) 0 (lvs (fiR r) (own r w)) - sumF h 0 (lvs (fiR r) (own r w))) else sumF (dS r p f) 0 (lvs (fiR r) (own r w)) - sumF h 0 (lvs (fiR r) (own r w))) left) h).1 = (payS r (dS r p f) (h, left) w).1 ∧
    left - mn (if rI r 3 w = 6 then mn (rJ r 8 w) (sumF (dS r p f) 0 (lvs (fiR r) (own r w)) - sumF h 0 (lvs (fiR r) (own r w))) else sumF (dS r p f) 0 (lvs (fiR r) (own r w)) - sumF h 0 (lvs (fiR r) (own r w))) left = (payS r (dS r p f) (h, left) w).2 ∧ HB r p f (payS r (dS r p f) (h, left) w).1 ∧ 0 ≤ (payS r (dS r p f) (h, left) w).2.toInt ∧ (payS r (dS r p f) (h, left) w).2.toInt ≤ 999999999999 := by
  obtain ⟨o1, o2, -, -⟩ := own_in hI hw
  obtain ⟨k1, k2, k3, -⟩ := inR_k hI hk
  have hwo : whR r (own r w) = own r w := (hI.2.2.2.1 _ o1 o2).2.1.2.2.2.1.mp k3
  have hk' : inR r p f (whR r (own r w)) := by rw [hwo]; exact hk
  obtain ⟨e1, e2, e3, e4, e5⟩ := open_int hI hB o1 o2 hk'
  have hb := hb_lv hI hB o1 o2 hk'
  have h8 := (hI.2.2.1.2.2.2.2.2 w hw.1 hw.2.1).2.1.1
  rw [Int64.le_iff_toInt_le, i64_0] at h8
  have eD : (sumF (dS r p f) 0 (lvs (fiR r) (own r w)) - sumF h 0 (lvs (fiR r) (own r w))).toInt = ((lvs (fiR r) (own r w)).map (fun y => (dS r p f y).toInt - (h y).toInt)).sum := by
    rw [i64_sub (by omega) (by omega), e1, e2, diff_sum]
  have hS : ((lvs (fiR r) (own r w)).map (fun y => (dS r p f y).toInt - (h y).toInt)).sum < 2 ^ 60 := by rw [diff_sum]; omega
  have hM : 0 ≤ (payM r left w).toInt ∧ (payM r left w).toInt ≤ left.toInt := by
    unfold payM
    split
    · rw [mn_int]; omega
    · omega
  have eA : (mn (if rI r 3 w = 6 then mn (rJ r 8 w) (sumF (dS r p f) 0 (lvs (fiR r) (own r w)) - sumF h 0 (lvs (fiR r) (own r w))) else sumF (dS r p f) 0 (lvs (fiR r) (own r w)) - sumF h 0 (lvs (fiR r) (own r w))) left).toInt = min (payM r left w).toInt ((lvs (fiR r) (own r w)).map (fun y => (dS r p f y).toInt - (h y).toInt)).sum := by
    unfold payM
    rw [mn_int]
    split
    · rw [mn_int, mn_int, eD]; omega
    · rw [eD]; omega
  obtain ⟨a1, a2, -, -⟩ := getL_min _ h (payM r left w) _ (lvs_nodup (HT_of hI.1 hI.2.2.2.1) _ o1 o2) hb hS hM.1 (by omega) eA
  have hSn : 0 ≤ ((lvs (fiR r) (own r w)).map (fun y => (dS r p f y).toInt - (h y).toInt)).sum := by rw [diff_sum]; omega
  have eT : payM r left w - (getL (dS r p f) (lvs (fiR r) (own r w)) (payM r left w) h).2 = mn (if rI r 3 w = 6 then mn (rJ r 8 w) (sumF (dS r p f) 0 (lvs (fiR r) (own r w)) - sumF h 0 (lvs (fiR r) (own r w))) else sumF (dS r p f) 0 (lvs (fiR r) (own r w)) - sumF h 0 (lvs (fiR r) (own r w))) left := Int64.toInt_inj.mp (by
    rw [i64_sub (by omega) (by omega), a2, eA]; omega)
  have eL : (left - mn (if rI r 3 w = 6 then mn (rJ r 8 w) (sumF (dS r p f) 0 (lvs (fiR r) (own r w)) - sumF h 0 (lvs (fiR r) (own r w))) else sumF (dS r p f) 0 (lvs (fiR r) (own r w)) - sumF h 0 (lvs (fiR r) (own r w))) left).toInt = left.toInt - min (payM r left w).toInt ((lvs (fiR r) (own r w)).map (fun y => (dS r p f y).toInt - (h y).toInt)).sum := by
    rw [i64_sub (by rw [eA]; omega) (by rw [eA]; omega), eA]
  refine ⟨a1.symm, ?_, HB_get hI hB o1 o2 hk' _ hM.1 (show (payM r left w).toInt < 2 ^ 60 by omega), ?_, ?_⟩
  · show _ = left - (payM r left w - _); rw [eT]
  · show 0 ≤ (left - (payM r left w - _)).toInt; rw [eT, eL]; omega
  · show (left - (payM r left w - _)).toInt ≤ _; rw [eT, eL]; omega
theorem gw_ok (hI : RI r) {h : Nat → Int64} (hB : HB r p f h) {q : Nat} (hq : q ∈ pos r) : HB r p f (gwI r (dS r p f) p f h q) := by
  unfold gwI
  split
  · rename_i hc
    have hq' := pos_mem.mp hq
    have hp := hI.2.2.2.2.1 q hq'.1 hq'.2
    have hz := hI.2.2.2.2.2.2.2.2.2.2 q hq'.1 hq'.2
    have hm := cntP_in hI hq hc
    have hO := ordS_ok (r := r) (dy := sS r 39) (as := sS r 39) (p := p) (f := f) hI
    have ka : inR r p f (whR r (ix r 31 q)) := (hO.2 _).mpr hm.1
    have kb : inR r p f (whR r (ix r 32 q)) := (hO.2 _).mpr hm.2
    obtain ⟨a1, a2, a3, a4, a5⟩ := open_int hI hB hp.2.1 hp.2.2.1 ka
    obtain ⟨b1, b2, b3, b4, b5⟩ := open_int hI hB hp.2.2.2.2.1 hp.2.2.2.2.2 kb
    have hl := hz.2.2.2
    rw [Int64.le_iff_toInt_le, i64_0] at hl
    have hx : 0 ≤ (gwX r (dS r p f) h q).toInt ∧ (gwX r (dS r p f) h q).toInt < 2 ^ 60 := by
      unfold gwX; rw [mn_int, mn_int]; omega
    have hy : 0 ≤ (gwY r (dS r p f) h q).toInt ∧ (gwY r (dS r p f) h q).toInt < 2 ^ 60 := by
      unfold gwY; rw [mn_int]; omega
    unfold gwS
    exact HB_get hI (HB_get hI (HB_giv hI (HB_giv hI hB hp.2.1 hp.2.2.1 ka _ hx.1 hx.2) hp.2.2.2.2.1 hp.2.2.2.2.2 kb _ hy.1 hy.2) hp.2.2.2.2.1 hp.2.2.2.2.2 kb _ hx.1 hx.2) hp.2.1 hp.2.2.1 ka _ hy.1 hy.2
  · exact hB
theorem HB_0 (hI : RI r) : HB r p f (fun _ => 0) := fun y hy => by
  have h := rkd_iff.mp hy
  obtain ⟨k1, k2, k3, -⟩ := inR_k hI h.2
  have hy2 : y ∈ lvs (fiR r) (whR r y) ∨ ¬ (1 ≤ y ∧ y ≤ nE r) := by
    by_cases hh : 1 ≤ y ∧ y ≤ nE r
    · exact Or.inl (lvs_wh hI hh.1 hh.2 h.1)
    · exact Or.inr hh
  rcases hy2 with z | z
  · have := (d_ok hI h.2).1 y z
    exact ⟨Int.le_refl _, this.1⟩
  · refine ⟨Int.le_refl _, ?_⟩
    show (0 : Int) ≤ (dS r p f y).toInt
    unfold dS duS
    rw [if_pos hy]
    split
    · exact Int.le_refl _
    · have hl : ∀ l : List Nat, y ∉ l → ∀ s d, dvs (dueF r (whR r y)) (rJ r 8) s d l y = 0 := by
        intro l
        induction l with
        | nil => intro _ s d; rfl
        | cons u t ih =>
          intro hn s d
          show (if y = u then _ else _) = _
          rw [if_neg (fun e => hn (by rw [e]; exact List.mem_cons_self))]
          exact ih (fun q => hn (List.mem_cons_of_mem _ q)) _ _
      rw [hl _ (fun q => z (by have := lv_wh hI k1 k2 k3 q; exact ⟨this.2.1, this.2.2.1⟩))]
      exact Int.le_refl _
end S2
