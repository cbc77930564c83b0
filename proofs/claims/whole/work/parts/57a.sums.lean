/-! ===== what the leaves owe together ===== -/
theorem blw_un {r : Rs} (hE : RIE r) {k : Nat} (hk : paR r k = 0) : ∀ e, 1 ≤ e → e ≤ nE r → blw (paR r) e k = true → whR r e = k := by
  intro e
  induction e using Nat.strongRecOn with
  | ind e ih =>
    intro h1 h2 hb
    have hI := hE e h1 h2
    rw [blw_eq (by omega) hI.2.2.1.1] at hb
    split at hb
    · rename_i he
      rw [← he] at hk ⊢
      exact hI.2.1.2.2.2.1.mp hk
    · by_cases hp : paR r e = 0
      · rw [hp, blw_0] at hb; cases hb
      · rw [← hI.2.1.2.2.2.2 hp]
        exact ih (paR r e) hI.2.2.1.1 (by omega) (by have := hI.2.2.1.1; omega) hb
theorem lvs_wh {r : Rs} (hI : RI r) {n : Nat} (h1 : 1 ≤ n) (h2 : n ≤ nE r) (hlf : fiR r n = 0) : n ∈ lvs (fiR r) (whR r n) := by
  have H := HT_of hI.1 hI.2.2.2.1
  have hw := hI.2.2.2.1 n h1 h2
  have h := lvs_filter H h1 h2 (whR r n) hw.2.1.1 (Nat.le_trans hw.2.1.2.1 h2) (blw_root hI.2.2.2.1 n h1 h2)
  rw [lvs_leaf H hlf] at h
  have : n ∈ (lvs (fiR r) (whR r n)).filter (fun y => blw (paR r) y n) := by rw [h]; simp
  exact (List.mem_filter.mp this).1
theorem whole_of_r {r : Rs} (hI : RI r) {n : Nat} (h1 : 1 ≤ n) (h2 : n ≤ nE r) : 1 ≤ whR r n ∧ whR r n ≤ nE r ∧ paR r (whR r n) = 0 := by
  have hw := hI.2.2.2.1 n h1 h2
  have hk2 := Nat.le_trans hw.2.1.2.1 h2
  exact ⟨hw.2.1.1, hk2, (hI.2.2.2.1 _ hw.2.1.1 hk2).2.1.2.2.2.1.mpr hw.2.1.2.2.1⟩
theorem lsum_wh {r : Rs} (hI : RI r) {n : Nat} (h1 : 1 ≤ n) (h2 : n ≤ nE r) (h4 : rI r 3 n ≠ 4) : lsum r (whR r n) ≤ 999999999999 := by
  obtain ⟨k1, k2, k3⟩ := whole_of_r hI h1 h2
  refine (hI.2.2.1.2.2.2.2.2 _ k1 k2).2.1.2.2 k3 ?_
  rw [← (hI.2.2.2.1 n h1 h2).2.2.2.1.2.2.1]; exact h4
theorem sum_up {f : Nat → Int} {n : Nat} {v : Int} : ∀ l : List Nat, l.Nodup → (l.map (fun y => if y = n then v else f y)).sum = (l.map f).sum + (if n ∈ l then v - f n else 0) := by
  intro l
  induction l with
  | nil => intro _; simp
  | cons y t ih =>
    intro nd
    obtain ⟨a, b⟩ := List.nodup_cons.mp nd
    rw [List.map_cons, List.sum_cons, List.map_cons, List.sum_cons, ih b]
    by_cases hy : y = n
    · subst hy
      rw [if_pos rfl, if_neg a, if_pos List.mem_cons_self]; omega
    · have e : (n ∈ y :: t) ↔ n ∈ t := ⟨fun h => (List.mem_cons.mp h).resolve_left (fun z => hy z.symm), fun h => List.mem_cons_of_mem _ h⟩
      rw [if_neg hy]
      by_cases ht : n ∈ t
      · rw [if_pos ht, if_pos (e.mpr ht)]; omega
      · rw [if_neg ht, if_neg (fun z => ht (e.mp z))]; omega
theorem sum_nn {f : Nat → Int} : ∀ l : List Nat, (∀ y ∈ l, 0 ≤ f y) → 0 ≤ (l.map f).sum ∧ ∀ y ∈ l, f y ≤ (l.map f).sum := by
  intro l
  induction l with
  | nil => intro _; exact ⟨by simp, fun y hy => by cases hy⟩
  | cons z t ih =>
    intro h
    have hz := h z List.mem_cons_self
    obtain ⟨a, b⟩ := ih (fun y hy => h y (List.mem_cons_of_mem _ hy))
    rw [List.map_cons, List.sum_cons]
    refine ⟨by omega, fun y hy => ?_⟩
    rcases List.mem_cons.mp hy with e | e
    · rw [e]; omega
    · have := b y e; omega
theorem lsum_uJ {r : Rs} (hI : RI r) {n : Nat} (h1 : 1 ≤ n) (h2 : n ≤ nE r) (hlf : fiR r n = 0) (v : Int64) {k : Nat} (k1 : 1 ≤ k) (k2 : k ≤ nE r) (k3 : paR r k = 0) : lsum (uJ r 8 n v) k = lsum r k + (if whR r n = k then v.toInt - (rJ r 8 n).toInt else 0) := by
  have H := HT_of hI.1 hI.2.2.2.1
  have e : ∀ y, (rJ (uJ r 8 n v) 8 y).toInt = if y = n then v.toInt else (rJ r 8 y).toInt := fun y => by
    rw [(R_uJ r 8 n v).2.2.2]
    by_cases hy : y = n
    · simp [hy]
    · simp [hy]
  show ((lvs (fiR r) k).map (fun y => (rJ (uJ r 8 n v) 8 y).toInt)).sum = _
  rw [List.map_congr_left (fun y _ => e y), sum_up _ (lvs_nodup H k k1 k2)]
  have : n ∈ lvs (fiR r) k ↔ whR r n = k := ⟨fun h => blw_un hI.2.2.2.1 k3 n h1 h2 (lvs_mem H k k1 k2 n h).1, fun h => by rw [← h]; exact lvs_wh hI h1 h2 hlf⟩
  by_cases hk : whR r n = k
  · rw [if_pos hk, if_pos (this.mpr hk)]; rfl
  · rw [if_neg hk, if_neg (fun z => hk (this.mp z))]; rfl
theorem lsum_ge {r : Rs} (hI : RI r) {n : Nat} (h1 : 1 ≤ n) (h2 : n ≤ nE r) (hlf : fiR r n = 0) : (rJ r 8 n).toInt ≤ lsum r (whR r n) := by
  have H := HT_of hI.1 hI.2.2.2.1
  obtain ⟨k1, k2, k3⟩ := whole_of_r hI h1 h2
  refine (sum_nn (f := fun y => (rJ r 8 y).toInt) (lvs (fiR r) (whR r n)) (fun y hy => ?_)).2 n (lvs_wh hI h1 h2 hlf)
  have hm := lvs_mem H _ k1 k2 y hy
  have := (hI.2.2.1.2.2.2.2.2 y (by omega) hm.2.2.2).2.1.1
  rw [Int64.le_iff_toInt_le] at this
  exact this
theorem RIx_8 {r : Rs} (hI : RI r) {n : Nat} (h1 : 1 ≤ n) (h2 : n ≤ nE r) (hlf : fiR r n = 0) (v : Int64) (h0 : 0 ≤ v) (h4 : rI r 3 n = 4 → v ≤ 19999999999980 ∧ (rI r 18 n = 0 → v ≤ 999999999999)) (hs : rI r 3 n ≠ 4 → lsum r (whR r n) - (rJ r 8 n).toInt + v.toInt ≤ 999999999999) : RIx (uJ r 8 n v) := by
  intro e a b
  have a' : 1 ≤ e := a
  have b' : e ≤ nE r := b
  have hx := hI.2.2.1.2.2.2.2.2 e a' b'
  have e8 : rJ (uJ r 8 n v) 8 e = if e = n then v else rJ r 8 e := by
    rw [(R_uJ r 8 n v).2.2.2]
    by_cases hy : e = n
    · simp [hy]
    · simp [hy]
  refine ⟨hx.1, ⟨?_, fun k4 => ⟨(hx.2.1.2.1 k4).1, ?_, fun h18 => ?_⟩, fun hp k4 => ?_⟩, hx.2.2⟩
  · rw [e8]; split
    · exact h0
    · exact hx.2.1.1
  · have k4' : rI r 3 e = 4 := k4
    rw [e8]; split
    · rename_i he; rw [he] at k4'; exact (h4 k4').1
    · exact (hx.2.1.2.1 k4).2.1
  · have k4' : rI r 3 e = 4 := k4
    have h18' : rI r 18 e = 0 := h18
    rw [e8]; split
    · rename_i he; rw [he] at k4' h18'; exact (h4 k4').2 h18'
    · exact (hx.2.1.2.1 k4).2.2 h18
  · have hp' : paR r e = 0 := hp
    rw [lsum_uJ hI h1 h2 hlf v a' b' hp']
    have hq := hx.2.1.2.2 hp' k4
    split
    · rename_i he
      have k4' : rI r 3 n ≠ 4 := by
        have := (hI.2.2.2.1 n h1 h2).2.2.2.1.2.2.1
        rw [this, he]; exact k4
      have := hs k4'
      rw [he] at this; omega
    · omega
theorem Int64_sub {a s : Int64} (h0 : 0 ≤ s) (h : s ≤ a) : (a - s).toInt = a.toInt - s.toInt := by
  rw [Int64.le_iff_toInt_le] at h0 h
  have z0 : (0 : Int64).toInt = 0 := rfl
  rw [z0] at h0
  have := Int64.toInt_lt a
  rw [Int64.toInt_sub, Int.bmod_eq_of_le (by omega) (by omega)]
theorem sumF_gen (f : Nat → Int64) : ∀ (l : List Nat) (a : Int64), 0 ≤ a.toInt → (∀ y ∈ l, 0 ≤ (f y).toInt) → a.toInt + (l.map (fun y => (f y).toInt)).sum < 2 ^ 63 → (sumF f a l).toInt = a.toInt + (l.map (fun y => (f y).toInt)).sum := by
  intro l
  induction l with
  | nil => intro a _ _ _; simp [sumF]
  | cons y t ih =>
    intro a ha h hb
    rw [List.map_cons, List.sum_cons] at hb ⊢
    have hy := h y List.mem_cons_self
    have ht := (sum_nn (f := fun y => (f y).toInt) t (fun z hz => h z (List.mem_cons_of_mem _ hz))).1
    have e : (a + f y).toInt = a.toInt + (f y).toInt := by
      rw [Int64.toInt_add, Int.bmod_eq_of_le (by omega) (by omega)]
    show (sumF f (a + f y) t).toInt = _
    rw [ih (a + f y) (by omega) (fun z hz => h z (List.mem_cons_of_mem _ hz)) (by omega), e]
    omega
theorem sumF_int {r : Rs} (hI : RI r) {k : Nat} (k1 : 1 ≤ k) (k2 : k ≤ nE r) (h4 : rI r 3 k ≠ 4) (k3 : paR r k = 0) : (sumF (rJ r 8) 0 (lvs (fiR r) k)).toInt = lsum r k := by
  have H := HT_of hI.1 hI.2.2.2.1
  have hs := (hI.2.2.1.2.2.2.2.2 k k1 k2).2.1.2.2 k3 h4
  have hn : ∀ y ∈ lvs (fiR r) k, 0 ≤ (rJ r 8 y).toInt := fun y hy => by
    have hm := lvs_mem H k k1 k2 y hy
    have := (hI.2.2.1.2.2.2.2.2 y (by omega) hm.2.2.2).2.1.1
    rw [Int64.le_iff_toInt_le] at this
    exact this
  have z0 : (0 : Int64).toInt = 0 := rfl
  unfold lsum at hs ⊢
  rw [sumF_gen (rJ r 8) _ 0 (by rw [z0]; omega) hn (by rw [z0]; omega), z0]
  omega
theorem lvs_un (fi : Nat → Nat) (e : Nat) : lvs fi e = if e < fi e ∧ fi e + 1 ≤ 300 then lvs fi (fi e) ++ lvs fi (fi e + 1) else [e] := by
  rw [lvs]
  split <;> rfl
theorem lvs_0 {fi : Nat → Nat} {e : Nat} (h : fi e = 0) : lvs fi e = [e] := by
  rw [lvs_un, if_neg (fun z => by omega)]
theorem lvs_ag {fi fi' pa : Nat → Nat} {N : Nat} (H : HT fi pa N) (h : ∀ e, 1 ≤ e → e ≤ N → fi' e = fi e) : ∀ e, 1 ≤ e → e ≤ N → lvs fi' e = lvs fi e := by
  refine tree_ind H (fun e a b c => ?_) (fun e a b c p q => ?_)
  · rw [lvs_0 (fi := fi') (by rw [h e a b]; exact c), lvs_0 c]
  · have hk := H.kids a b c
    rw [lvs_un fi', h e a b, if_pos ⟨hk.1, hk.2.1⟩, p, q, lvs_kids H a b c]
