/-! ===== the tree of an entry's parts: fi e the first part (0: none), pa e what it is a part of (0: none) ===== -/
def lvs (fi : Nat → Nat) (e : Nat) : List Nat :=
  if h : e < fi e ∧ fi e + 1 ≤ 300 then lvs fi (fi e) ++ lvs fi (fi e + 1) else [e]
termination_by 301 - e
decreasing_by all_goals omega
/-- x is e or below it -/
def blw (pa : Nat → Nat) (x e : Nat) : Bool :=
  if h : x ≠ 0 ∧ pa x < x then (if x = e then true else blw pa (pa x) e) else false
termination_by x
decreasing_by omega
def HT (fi pa : Nat → Nat) (N : Nat) : Prop := N ≤ 300 ∧ ∀ e, 1 ≤ e → e ≤ N → pa e < e ∧ (pa e ≠ 0 → fi (pa e) = e ∨ fi (pa e) + 1 = e) ∧ (fi e ≠ 0 → e < fi e ∧ fi e + 1 ≤ N ∧ pa (fi e) = e ∧ pa (fi e + 1) = e)
section TR
variable {fi pa : Nat → Nat} {N : Nat}
theorem blw_eq {x e : Nat} (h0 : x ≠ 0) (h1 : pa x < x) : blw pa x e = if x = e then true else blw pa (pa x) e := by
  rw [blw, dif_pos ⟨h0, h1⟩]
theorem blw_0 (e : Nat) : blw pa 0 e = false := by rw [blw, dif_neg (fun h => h.1 rfl)]
theorem blw_self {e : Nat} (h0 : e ≠ 0) (h1 : pa e < e) : blw pa e e = true := by rw [blw_eq h0 h1, if_pos rfl]
theorem blw_le : ∀ (x e : Nat), blw pa x e = true → e ≤ x ∧ e ≠ 0 := by
  intro x
  induction x using Nat.strongRecOn with
  | ind x ih =>
    intro e h
    rw [blw] at h
    split at h
    · rename_i hc
      split at h
      · rename_i he; subst he; exact ⟨Nat.le_refl _, hc.1⟩
      · obtain ⟨h1, h2⟩ := ih (pa x) hc.2 e h
        exact ⟨by omega, h2⟩
    · cases h
theorem blw_trans : ∀ (x y z : Nat), blw pa x y = true → blw pa y z = true → blw pa x z = true := by
  intro x
  induction x using Nat.strongRecOn with
  | ind x ih =>
    intro y z h1 h2
    rw [blw] at h1
    split at h1
    · rename_i hc
      split at h1
      · rename_i he; subst he; exact h2
      · rw [blw_eq hc.1 hc.2]
        split
        · rfl
        · exact ih (pa x) hc.2 y z h1 h2
    · cases h1
/-- nothing is below two that are parts of one -/
theorem blw_disj : ∀ (x c d e : Nat), pa c = e → pa d = e → e < c → e < d → c ≠ d → blw pa x c = true → blw pa x d = true → False := by
  intro x
  induction x using Nat.strongRecOn with
  | ind x ih =>
    intro c d e hc hd h1 h2 hne hx hy
    rw [blw] at hx hy
    split at hx
    · rename_i hcond
      rw [dif_pos hcond] at hy
      split at hx
      · rename_i he
        subst he
        rw [if_neg hne] at hy
        have := (blw_le _ _ hy).1
        omega
      · split at hy
        · rename_i he
          subst he
          have := (blw_le _ _ hx).1
          omega
        · exact ih (pa x) hcond.2 c d e hc hd h1 h2 hne hx hy
    · cases hx
theorem HT.kids (H : HT fi pa N) {e : Nat} (h1 : 1 ≤ e) (h2 : e ≤ N) (hf : fi e ≠ 0) : e < fi e ∧ fi e + 1 ≤ 300 ∧ fi e + 1 ≤ N ∧ pa (fi e) = e ∧ pa (fi e + 1) = e := by
  have h3 := (H.2 e h1 h2).2.2 hf
  have h4 := H.1
  exact ⟨h3.1, by omega, h3.2.1, h3.2.2.1, h3.2.2.2⟩
theorem lvs_leaf (H : HT fi pa N) {e : Nat} (hf : fi e = 0) : lvs fi e = [e] := by
  rw [lvs, dif_neg (fun h => by omega)]
theorem lvs_kids (H : HT fi pa N) {e : Nat} (h1 : 1 ≤ e) (h2 : e ≤ N) (hf : fi e ≠ 0) : lvs fi e = lvs fi (fi e) ++ lvs fi (fi e + 1) := by
  have h3 := H.kids h1 h2 hf
  rw [lvs, dif_pos ⟨h3.1, h3.2.1⟩]
/-- induction over the tree, from the leaves -/
theorem tree_ind (H : HT fi pa N) {P : Nat → Prop} (hl : ∀ e, 1 ≤ e → e ≤ N → fi e = 0 → P e) (hk : ∀ e, 1 ≤ e → e ≤ N → fi e ≠ 0 → P (fi e) → P (fi e + 1) → P e) : ∀ e, 1 ≤ e → e ≤ N → P e := by
  have h : ∀ n e, N - e ≤ n → 1 ≤ e → e ≤ N → P e := by
    intro n
    induction n with
    | zero =>
      intro e h0 h1 h2
      by_cases hf : fi e = 0
      · exact hl e h1 h2 hf
      · have := H.kids h1 h2 hf; omega
    | succ n ih =>
      intro e h0 h1 h2
      by_cases hf : fi e = 0
      · exact hl e h1 h2 hf
      · have h3 := H.kids h1 h2 hf
        exact hk e h1 h2 hf (ih _ (by omega) (by omega) (by omega)) (ih _ (by omega) (by omega) (by omega))
  exact fun e h1 h2 => h (N - e) e (Nat.le_refl _) h1 h2
theorem lvs_mem (H : HT fi pa N) : ∀ e, 1 ≤ e → e ≤ N → ∀ x ∈ lvs fi e, blw pa x e = true ∧ fi x = 0 ∧ e ≤ x ∧ x ≤ N := by
  refine tree_ind H (fun e h1 h2 hf x hx => ?_) (fun e h1 h2 hf ih1 ih2 x hx => ?_)
  · rw [lvs_leaf H hf] at hx
    have hx : x = e := by simpa using hx
    subst hx
    exact ⟨blw_self (by omega) (H.2 x h1 h2).1, hf, Nat.le_refl _, h2⟩
  · have h3 := H.kids h1 h2 hf
    have up : ∀ c, pa c = e → e < c → blw pa c e = true := fun c hc he => by
      rw [blw_eq (by omega) (by omega)]
      split
      · rfl
      · rw [hc]; exact blw_self (by omega) (H.2 e h1 h2).1
    rw [lvs_kids H h1 h2 hf] at hx
    rcases List.mem_append.mp hx with hx | hx
    · obtain ⟨a, b, c, d⟩ := ih1 x hx
      exact ⟨blw_trans _ _ _ a (up _ h3.2.2.2.1 (by omega)), b, by omega, d⟩
    · obtain ⟨a, b, c, d⟩ := ih2 x hx
      exact ⟨blw_trans _ _ _ a (up _ h3.2.2.2.2 (by omega)), b, by omega, d⟩
theorem lvs_nodup (H : HT fi pa N) : ∀ e, 1 ≤ e → e ≤ N → (lvs fi e).Nodup := by
  refine tree_ind H (fun e h1 h2 hf => ?_) (fun e h1 h2 hf ih1 ih2 => ?_)
  · rw [lvs_leaf H hf]; simp
  · have h3 := H.kids h1 h2 hf
    rw [lvs_kids H h1 h2 hf]
    refine List.nodup_append.mpr ⟨ih1, ih2, fun x hx y hy hxy => ?_⟩
    subst hxy
    exact blw_disj x _ _ e h3.2.2.2.1 h3.2.2.2.2 (by omega) (by omega) (by omega) (lvs_mem H _ (by omega) (by omega) x hx).1 (lvs_mem H _ (by omega) (by omega) x hy).1
theorem nodup_len (l : List Nat) (n : Nat) (h : l.Nodup) (hl : ∀ x ∈ l, 1 ≤ x ∧ x ≤ n) : l.length ≤ n := by
  induction n generalizing l with
  | zero =>
    cases l with
    | nil => simp
    | cons a t => have := hl a List.mem_cons_self; omega
  | succ n ih =>
    by_cases hm : (n + 1) ∈ l
    · have h1 := ih (l.erase (n + 1)) (h.erase _) (fun x hx => by
        have h2 := hl x (List.mem_of_mem_erase hx)
        have h3 : x ≠ n + 1 := fun e => by subst e; exact (List.Nodup.not_mem_erase h) hx
        omega)
      rw [List.length_erase_of_mem hm] at h1
      omega
    · have h1 := ih l h (fun x hx => by
        have h2 := hl x hx
        have h3 : x ≠ n + 1 := fun e => by subst e; exact hm hx
        omega)
      omega
theorem lvs_len (H : HT fi pa N) {e : Nat} (h1 : 1 ≤ e) (h2 : e ≤ N) : (lvs fi e).length ≤ N :=
  nodup_len _ _ (lvs_nodup H e h1 h2) (fun x hx => by have := lvs_mem H e h1 h2 x hx; omega)
theorem lvs_all (H : HT fi pa N) {e : Nat} (h1 : 1 ≤ e) (h2 : e ≤ N) : (lvs fi e).filter (fun x => blw pa x e) = lvs fi e :=
  List.filter_eq_self.mpr (fun x hx => (lvs_mem H e h1 h2 x hx).1)
/-- whoever is below w, but not w, is below one of its two parts -/
theorem blw_kid (H : HT fi pa N) : ∀ (e w : Nat), 1 ≤ e → e ≤ N → blw pa e w = true → e ≠ w → fi w ≠ 0 ∧ (blw pa e (fi w) = true ∨ blw pa e (fi w + 1) = true) := by
  intro e
  induction e using Nat.strongRecOn with
  | ind e ih =>
    intro w h1 h2 hb hne
    have h3 := H.2 e h1 h2
    rw [blw_eq (by omega) h3.1, if_neg hne] at hb
    have hp0 : pa e ≠ 0 := fun h => by rw [h, blw_0] at hb; cases hb
    by_cases hpw : pa e = w
    · have h4 := h3.2.1 hp0
      rw [hpw] at h4
      refine ⟨by omega, ?_⟩
      rcases h4 with h4 | h4
      · left; rw [h4]; exact blw_self (by omega) h3.1
      · right; rw [h4]; exact blw_self (by omega) h3.1
    · obtain ⟨a, b⟩ := ih (pa e) h3.1 w (by omega) (by omega) hb hpw
      refine ⟨a, ?_⟩
      have up : ∀ c, blw pa (pa e) c = true → blw pa e c = true := fun c hc => by
        rw [blw_eq (by omega) h3.1]
        split
        · rfl
        · exact hc
      rcases b with b | b
      · exact Or.inl (up _ b)
      · exact Or.inr (up _ b)
theorem lvs_filter (H : HT fi pa N) {e : Nat} (he1 : 1 ≤ e) (he2 : e ≤ N) : ∀ w, 1 ≤ w → w ≤ N → blw pa e w = true → (lvs fi w).filter (fun x => blw pa x e) = lvs fi e := by
  refine tree_ind H (fun w h1 h2 hf hb => ?_) (fun w h1 h2 hf ih1 ih2 hb => ?_)
  · by_cases h : e = w
    · subst h; exact lvs_all H he1 he2
    · exact absurd hf (blw_kid H e w he1 he2 hb h).1
  · by_cases h : e = w
    · subst h; exact lvs_all H he1 he2
    · have h3 := H.kids h1 h2 hf
      rw [lvs_kids H h1 h2 hf, List.filter_append]
      have none : ∀ c d, pa c = w → pa d = w → w < c → w < d → c ≠ d → 1 ≤ d → d ≤ N → blw pa e c = true → (lvs fi d).filter (fun x => blw pa x e) = [] := by
        intro c d hc hd k1 k2 hne hd1 hd2 hbe
        rw [List.filter_eq_nil_iff]
        intro x hx hb2
        exact blw_disj x c d w hc hd k1 k2 hne (blw_trans _ _ _ (by simpa using hb2) hbe) (lvs_mem H d hd1 hd2 x hx).1
      rcases (blw_kid H e w he1 he2 hb h).2 with hb | hb
      · rw [ih1 hb, none _ _ h3.2.2.2.1 h3.2.2.2.2 (by omega) (by omega) (by omega) (by omega) (by omega) hb, List.append_nil]
      · rw [ih2 hb, none _ _ h3.2.2.2.2 h3.2.2.2.1 (by omega) (by omega) (by omega) (by omega) (by omega) hb, List.nil_append]
end TR
