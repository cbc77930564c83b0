/-! ===== the order, purely ===== -/
section O1
variable (r : Rs) (dy as : Int32) (p : Nat)
def fstB (w : Nat) : Bool := decide (rI r 3 w = 5) && cntB dy as (rI r 22 w) (rI r 23 w) && !(decide (dy < rI r 20 w))
/-- w has a place: of its own, or, a caution, for what it keeps -/
def plB (w : Nat) : Bool := if rI r 3 w = 6 then liesB r dy as w p && !(decide (ix r 24 w = 0)) && cntB dy as (rI r 26 (ix r 24 w)) (rI r 27 (ix r 24 w)) && liesB r dy as (ix r 24 w) p else liesB r dy as w p
def own (w : Nat) : Nat := if rI r 3 w = 6 then ix r 24 w else w
def ahd (w v : Nat) : Bool := if fstB r dy as w = fstB r dy as v then (if rI r 13 w = rI r 13 v then decide (w < v) else decide (rI r 13 w < rI r 13 v)) else fstB r dy as w
def PLs (f : Nat) : List Nat := (chF r f).filter (fun w => plB r dy as p w && fstB r dy as w) ++ (chF r f).filter (fun w => plB r dy as p w && !(fstB r dy as w))
def insR (v : Nat) : List Nat → List Nat
  | [] => [v]
  | w :: t => if ahd r dy as w v then v :: w :: t else w :: insR v t
def addO (O : List Nat) (w : Nat) : List Nat := if own r w ∈ O then O else O ++ [own r w]
def OLs (f : Nat) : List Nat := (PLs r dy as p f).foldl (addO r) []
end O1
def idxR (e : Nat) : Nat → List Nat → Int32
  | _, [] => -1
  | i, o :: t => if o = e then nI i else idxR e (i + 1) t
def idx (O : List Nat) (e : Nat) : Int32 := idxR e 0 O
def swp (a b e : Nat) : Nat := if e = a then b else if e = b then a else e
def cntP (r : Rs) (dy as : Int32) (p f q : Nat) : Bool := decide (foR r (ix r 31 q) = f) && cntB dy as (rI r 34 q) (rI r 35 q) && !(cntB dy as (rI r 36 q) (rI r 37 q)) && liesB r dy as (ix r 31 q) p && liesB r dy as (ix r 32 q) p
def pstp (r : Rs) (dy as : Int32) (p f : Nat) (s : List Nat × (Nat → Int32)) (q : Nat) : List Nat × (Nat → Int32) :=
  if cntP r dy as p f q = true ∧ idx s.1 (gA r q) < idx s.1 (gB r q) then (s.1.map (swp (gA r q) (gB r q)), fun e => if e = gA r q ∨ e = gB r q then s.2 e + 1 else s.2 e) else s
def ordS (r : Rs) (dy as : Int32) (p f : Nat) : List Nat × (Nat → Int32) := (pos r).foldl (pstp r dy as p f) (OLs r dy as p f, fun _ => 0)
section O2
variable {r : Rs} {dy as : Int32} {p : Nat}
theorem ahd_asym {a b : Nat} (h : ahd r dy as a b = true) : ahd r dy as b a = false := by
  unfold ahd at *
  by_cases h1 : fstB r dy as a = fstB r dy as b
  · rw [if_pos h1] at h
    rw [if_pos h1.symm]
    by_cases h2 : rI r 13 a = rI r 13 b
    · rw [if_pos h2] at h
      rw [if_pos h2.symm]
      simp at *; omega
    · rw [if_neg h2] at h
      rw [if_neg (fun z => h2 z.symm)]
      simp only [decide_eq_true_eq, decide_eq_false_iff_not, Int32.lt_iff_toInt_lt] at *
      omega
  · rw [if_neg h1] at h
    rw [if_neg (fun z => h1 z.symm)]
    rw [h] at h1
    revert h1; cases fstB r dy as b <;> simp
theorem ahd_tot {a b : Nat} (hne : a ≠ b) (h : ahd r dy as a b = false) : ahd r dy as b a = true := by
  unfold ahd at *
  by_cases h1 : fstB r dy as a = fstB r dy as b
  · rw [if_pos h1] at h
    rw [if_pos h1.symm]
    by_cases h2 : rI r 13 a = rI r 13 b
    · rw [if_pos h2] at h
      rw [if_pos h2.symm]
      simp at *; omega
    · rw [if_neg h2] at h
      rw [if_neg (fun z => h2 z.symm)]
      have h2' : (rI r 13 a).toInt ≠ (rI r 13 b).toInt := fun z => h2 (Int32.toInt_inj.mp z)
      simp only [decide_eq_true_eq, decide_eq_false_iff_not, Int32.lt_iff_toInt_lt] at *
      omega
  · rw [if_neg h1] at h
    rw [if_neg (fun z => h1 z.symm)]
    rw [h] at h1
    revert h1; cases fstB r dy as b <;> simp
theorem ahd_tr {a b c : Nat} (h : ahd r dy as a b = true) (g : ahd r dy as b c = true) : ahd r dy as a c = true := by
  unfold ahd at *
  cases ha : fstB r dy as a <;> cases hb : fstB r dy as b <;> cases hc : fstB r dy as c <;> rw [ha, hb] at h <;> rw [hb, hc] at g <;> simp at h g ⊢
  all_goals
    by_cases h1 : rI r 13 a = rI r 13 b <;> by_cases h2 : rI r 13 b = rI r 13 c
    all_goals
      simp only [h1, h2, if_true, if_false] at h g ⊢
      try omega
    all_goals
      first
      | omega
      | (simp only [Int32.lt_iff_toInt_lt] at *
         by_cases h3 : rI r 13 a = rI r 13 c
         · have e1 := congrArg Int32.toInt h3
           simp_all
           try omega
         · simp_all
           try omega)
theorem insR_iff (v z : Nat) : ∀ R : List Nat, z ∈ insR r dy as v R ↔ z = v ∨ z ∈ R := by
  intro R
  induction R with
  | nil => simp [insR]
  | cons w t ih =>
    unfold insR
    split
    · simp
    · rw [List.mem_cons, ih, List.mem_cons]
      constructor
      · rintro (h | h | h)
        · exact Or.inr (Or.inl h)
        · exact Or.inl h
        · exact Or.inr (Or.inr h)
      · rintro (h | h | h)
        · exact Or.inr (Or.inl h)
        · exact Or.inl h
        · exact Or.inr (Or.inr h)
theorem insR_len (v : Nat) : ∀ R : List Nat, (insR r dy as v R).length = R.length + 1 := by
  intro R
  induction R with
  | nil => rfl
  | cons w t ih =>
    unfold insR
    split
    · rfl
    · rw [List.length_cons, ih, List.length_cons]
theorem insR_srt (v : Nat) : ∀ R : List Nat, R.Pairwise (fun a b => ahd r dy as b a = true) → v ∉ R → (insR r dy as v R).Pairwise (fun a b => ahd r dy as b a = true) := by
  intro R
  induction R with
  | nil => intro _ _; simp [insR]
  | cons w t ih =>
    intro h hv
    obtain ⟨h1, h2⟩ := List.pairwise_cons.mp h
    unfold insR
    split
    · rename_i hw
      refine List.pairwise_cons.mpr ⟨fun u hu => ?_, h⟩
      rcases List.mem_cons.mp hu with e | e
      · rw [e]; exact hw
      · exact ahd_tr (h1 u e) hw
    · rename_i hw
      have hw' : ahd r dy as w v = false := by simpa using hw
      refine List.pairwise_cons.mpr ⟨fun u hu => ?_, ih h2 (fun z => hv (List.mem_cons_of_mem _ z))⟩
      rcases (insR_iff v u t).mp hu with e | e
      · rw [e]; exact ahd_tot (fun z => hv (by rw [← z]; exact List.mem_cons_self)) hw'
      · exact h1 u e
theorem srt_uniq {R : Nat → Nat → Prop} (hR : ∀ a b, R a b → ¬ R b a) : ∀ l1 l2 : List Nat, l1.Pairwise R → l2.Pairwise R → (∀ a, a ∈ l1 ↔ a ∈ l2) → l1 = l2 := by
  intro l1
  induction l1 with
  | nil =>
    intro l2 _ _ h
    cases l2 with
    | nil => rfl
    | cons b u => exact absurd ((h b).mpr List.mem_cons_self) (by simp)
  | cons a t ih =>
    intro l2 h1 h2 h
    cases l2 with
    | nil => exact absurd ((h a).mp List.mem_cons_self) (by simp)
    | cons b u =>
      obtain ⟨p1, p2⟩ := List.pairwise_cons.mp h1
      obtain ⟨q1, q2⟩ := List.pairwise_cons.mp h2
      have hab : a = b := by
        apply Classical.byContradiction
        intro hne
        rcases List.mem_cons.mp ((h a).mp List.mem_cons_self) with e | e
        · exact hne e
        · rcases List.mem_cons.mp ((h b).mpr List.mem_cons_self) with e' | e'
          · exact hne e'.symm
          · exact hR _ _ (p1 b e') (q1 a e)
      subst hab
      have irr : ∀ c, R a c → c ≠ a := fun c hc e => by rw [e] at hc; exact hR _ _ hc hc
      congr 1
      refine ih u p2 q2 (fun c => ⟨fun hc => ?_, fun hc => ?_⟩)
      · rcases List.mem_cons.mp ((h c).mp (List.mem_cons_of_mem _ hc)) with e | e
        · exact absurd e (irr c (p1 c hc))
        · exact e
      · rcases List.mem_cons.mp ((h c).mpr (List.mem_cons_of_mem _ hc)) with e | e
        · exact absurd e (irr c (q1 c hc))
        · exact e
theorem chF_mem {f y : Nat} : y ∈ chF r f ↔ 1 ≤ y ∧ y ≤ nE r ∧ paR r y = 0 ∧ foR r y = f := by
  refine ⟨fun h => chN_mem _ h, fun h => ?_⟩
  have key : ∀ n, y ≤ n → y ∈ chN r f n := by
    intro n
    induction n with
    | zero => intro hy; omega
    | succ n ih =>
      intro hy
      unfold chN
      by_cases hyn : y = n + 1
      · rw [if_pos (by rw [← hyn]; exact h.2.2)]
        exact (insW_iff _).mpr (Or.inl hyn)
      · split
        · exact (insW_iff _).mpr (Or.inr (ih (by omega)))
        · exact ih (by omega)
  exact key _ h.2.1
def ord (r : Rs) (a b : Nat) : Prop := rI r 13 a < rI r 13 b ∨ (rI r 13 a = rI r 13 b ∧ a < b)
theorem chN_ord (f : Nat) : ∀ n, (chN r f n).Pairwise (ord r) := by
  intro n
  induction n with
  | zero => exact List.Pairwise.nil
  | succ n ih =>
    unfold chN
    split
    · have hs := chN_srt r f n
      have hm : ∀ y ∈ chN r f n, y ≤ n := fun y hy => (chN_mem n hy).2.1
      unfold insW
      have hcat : (chN r f n).takeWhile (fun y => decide (rI r 13 y ≤ rI r 13 (n + 1))) ++ (chN r f n).dropWhile (fun y => decide (rI r 13 y ≤ rI r 13 (n + 1))) = chN r f n := List.takeWhile_append_dropWhile
      have ih2 := ih
      rw [← hcat] at ih2
      obtain ⟨a, b, c⟩ := List.pairwise_append.mp ih2
      refine List.pairwise_append.mpr ⟨a, List.pairwise_cons.mpr ⟨fun y hy => ?_, b⟩, fun x hx y hy => ?_⟩
      · have h1 := cut_lt hs y hy
        left
        rw [Int32.lt_iff_toInt_lt]; rw [Int32.le_iff_toInt_le] at h1; omega
      · rcases List.mem_cons.mp hy with e | e
        · rw [e]
          have h1 := cut_le x hx
          have h2 := hm x ((List.takeWhile_sublist _).subset hx)
          by_cases h3 : rI r 13 x = rI r 13 (n + 1)
          · exact Or.inr ⟨h3, by omega⟩
          · left
            have h3' : (rI r 13 x).toInt ≠ (rI r 13 (n + 1)).toInt := fun z => h3 (Int32.toInt_inj.mp z)
            rw [Int32.le_iff_toInt_le] at h1; rw [Int32.lt_iff_toInt_lt]; omega
        · exact c x hx y e
    · exact ih
theorem ord_ahd {a b : Nat} (h : ord r a b) (hf : fstB r dy as a = fstB r dy as b) : ahd r dy as a b = true := by
  unfold ahd
  rw [if_pos hf]
  rcases h with h | h
  · rw [if_neg (fun z => by rw [z, Int32.lt_iff_toInt_lt] at h; omega)]; simpa using h
  · rw [if_pos h.1]; simpa using h.2
theorem PLs_srt (f : Nat) : (PLs r dy as p f).Pairwise (fun a b => ahd r dy as a b = true) := by
  have h := chN_ord (r := r) f (nE r)
  unfold PLs
  refine List.pairwise_append.mpr ⟨?_, ?_, fun x hx y hy => ?_⟩
  · refine List.Pairwise.imp_of_mem ?_ (h.filter _)
    intro a b ha hb hab
    have h1 := (List.mem_filter.mp ha).2
    have h2 := (List.mem_filter.mp hb).2
    simp at h1 h2
    exact ord_ahd hab (by rw [h1.2, h2.2])
  · refine List.Pairwise.imp_of_mem ?_ (h.filter _)
    intro a b ha hb hab
    have h1 := (List.mem_filter.mp ha).2
    have h2 := (List.mem_filter.mp hb).2
    simp at h1 h2
    exact ord_ahd hab (by rw [h1.2, h2.2])
  · have h1 := (List.mem_filter.mp hx).2
    have h2 := (List.mem_filter.mp hy).2
    simp at h1 h2
    unfold ahd
    rw [h1.2, h2.2]
    simp
theorem PLs_mem {f w : Nat} : w ∈ PLs r dy as p f ↔ w ∈ chF r f ∧ plB r dy as p w = true := by
  unfold PLs
  rw [List.mem_append, List.mem_filter, List.mem_filter]
  cases fstB r dy as w <;> simp
end O2
