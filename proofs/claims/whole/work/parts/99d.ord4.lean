/-! ===== the order: where each stands ===== -/
theorem idxR_no {e : Nat} : ∀ (O : List Nat) (i : Nat), e ∉ O → idxR e i O = -1 := by
  intro O
  induction O with
  | nil => intro i _; rfl
  | cons o t ih =>
    intro i h
    show (if o = e then nI i else idxR e (i + 1) t) = -1
    rw [if_neg (fun z => h (by rw [z]; exact List.mem_cons_self))]
    exact ih _ (fun z => h (List.mem_cons_of_mem _ z))
theorem idxR_in {e : Nat} : ∀ (O : List Nat) (i : Nat), e ∈ O → ∃ j, j < O.length ∧ idxR e i O = nI (i + j) ∧ O.getD j 0 = e := by
  intro O
  induction O with
  | nil => intro i h; cases h
  | cons o t ih =>
    intro i h
    show ∃ j, j < _ ∧ (if o = e then nI i else idxR e (i + 1) t) = _ ∧ _
    by_cases ho : o = e
    · exact ⟨0, by simp, by rw [if_pos ho]; rfl, by simpa using ho⟩
    · obtain ⟨j, h1, h2, h3⟩ := ih (i + 1) ((List.mem_cons.mp h).resolve_left (fun z => ho z.symm))
      refine ⟨j + 1, by simp; omega, ?_, by simpa using h3⟩
      rw [if_neg ho, h2]; congr 1; omega
theorem idxR_at : ∀ (O : List Nat) (i j : Nat), O.Nodup → j < O.length → idxR (O.getD j 0) i O = nI (i + j) := by
  intro O
  induction O with
  | nil => intro i j _ h; simp at h
  | cons o t ih =>
    intro i j nd h
    obtain ⟨n1, n2⟩ := List.nodup_cons.mp nd
    show (if o = (o :: t).getD j 0 then nI i else idxR _ (i + 1) t) = _
    cases j with
    | zero => rw [if_pos (by simp)]; rfl
    | succ j =>
      have hj : j < t.length := by simpa using h
      have e : (o :: t).getD (j + 1) 0 = t.getD j 0 := by simp
      have hm : t.getD j 0 ∈ t := by simp [List.getD, hj]
      rw [e, if_neg (fun z => n1 (by rw [z]; exact hm)), ih (i + 1) j n2 hj]
      congr 1; omega
theorem idxR_add {e o : Nat} : ∀ (O : List Nat) (i : Nat), idxR e i (O ++ [o]) = if e ∈ O then idxR e i O else if o = e then nI (i + O.length) else -1 := by
  intro O
  induction O with
  | nil => intro i; show (if o = e then nI i else -1) = _; simp
  | cons y t ih =>
    intro i
    show (if y = e then nI i else idxR e (i + 1) (t ++ [o])) = (if e ∈ y :: t then (if y = e then nI i else idxR e (i + 1) t) else _)
    by_cases hy : y = e
    · rw [if_pos hy, if_pos (by rw [hy]; exact List.mem_cons_self), if_pos hy]
    · rw [if_neg hy, if_neg hy, ih]
      have hm : (e ∈ y :: t) ↔ e ∈ t := ⟨fun h => (List.mem_cons.mp h).resolve_left (fun z => hy z.symm), fun h => List.mem_cons_of_mem _ h⟩
      by_cases ht : e ∈ t
      · rw [if_pos ht, if_pos (hm.mpr ht)]
      · rw [if_neg ht, if_neg (fun z => ht (hm.mp z))]
        have : i + 1 + t.length = i + (y :: t).length := by simp; omega
        rw [this]
theorem swp_swp (a b e : Nat) : swp a b (swp a b e) = e := by
  unfold swp
  by_cases h1 : e = a
  · rw [if_pos h1]
    by_cases h2 : b = a
    · rw [if_pos h2]; omega
    · rw [if_neg h2, if_pos rfl]; exact h1.symm
  · rw [if_neg h1]
    by_cases h2 : e = b
    · rw [if_pos h2, if_pos rfl]; exact h2.symm
    · rw [if_neg h2, if_neg h1, if_neg h2]
theorem idxR_swp (a b e : Nat) : ∀ (O : List Nat) (i : Nat), idxR e i (O.map (swp a b)) = idxR (swp a b e) i O := by
  intro O
  induction O with
  | nil => intro i; rfl
  | cons y t ih =>
    intro i
    show (if swp a b y = e then nI i else idxR e (i + 1) (t.map (swp a b))) = (if y = swp a b e then nI i else idxR (swp a b e) (i + 1) t)
    rw [ih]
    by_cases h : y = swp a b e
    · rw [if_pos h, if_pos (by rw [h]; exact swp_swp a b e)]
    · rw [if_neg h, if_neg (fun z => h (by rw [← z]; exact (swp_swp a b y).symm))]
theorem idx_m1 {O : List Nat} {e : Nat} (hl : O.length < 2 ^ 31) : idx O e = -1 ↔ e ∉ O := by
  refine ⟨fun h hm => ?_, idxR_no O 0⟩
  obtain ⟨j, h1, h2, -⟩ := idxR_in O 0 hm
  unfold idx at h
  rw [h2] at h
  exact nI_m1 (by omega) h
def OrF (r : Rs) (O : List Nat) (mv : Nat → Int32) (r1 : Rs) : Prop := sS r1 58 = nI O.length ∧ (∀ j, j < O.length → rI r1 55 j = nI (O.getD j 0)) ∧ ∀ o, o ∈ O → rI r1 56 o = mv o
/-- an order of the folio f -/
def OkO (r : Rs) (dy as : Int32) (p f : Nat) (O : List Nat) : Prop := O.Nodup ∧ ∀ o, o ∈ O ↔ o ∈ OLs r dy as p f
theorem addO_pos {r : Rs} {O : List Nat} {w : Nat} (h : own r w ∈ O) : addO r O w = O := by unfold addO; rw [if_pos h]
theorem addO_neg {r : Rs} {O : List Nat} {w : Nat} (h : own r w ∉ O) : addO r O w = O ++ [own r w] := by unfold addO; rw [if_neg h]
section O5
variable {r : Rs} {dy as : Int32} {p f : Nat}
theorem addO_mem (l : List Nat) : ∀ (O : List Nat), O.Nodup → (l.foldl (addO r) O).Nodup ∧ ∀ o, o ∈ l.foldl (addO r) O ↔ o ∈ O ∨ ∃ w ∈ l, own r w = o := by
  induction l with
  | nil => intro O h; exact ⟨h, fun o => by simp⟩
  | cons w t ih =>
    intro O h
    rw [List.foldl_cons]
    have h1 : (addO r O w).Nodup := by
      unfold addO
      split
      · exact h
      · rename_i hn
        rw [List.nodup_append]
        exact ⟨h, by simp, fun a ha b hb e => hn (by simp at hb; rw [← hb, ← e]; exact ha)⟩
    obtain ⟨a, b⟩ := ih _ h1
    refine ⟨a, fun o => ?_⟩
    rw [b]
    unfold addO
    by_cases hm : own r w ∈ O
    · rw [if_pos hm]
      constructor
      · rintro (z | ⟨v, z1, z2⟩)
        · exact Or.inl z
        · exact Or.inr ⟨v, List.mem_cons_of_mem _ z1, z2⟩
      · rintro (z | ⟨v, z1, z2⟩)
        · exact Or.inl z
        · rcases List.mem_cons.mp z1 with e | e
          · left; rw [← z2, e]; exact hm
          · exact Or.inr ⟨v, e, z2⟩
    · rw [if_neg hm]
      constructor
      · rintro (z | ⟨v, z1, z2⟩)
        · rcases List.mem_append.mp z with z | z
          · exact Or.inl z
          · exact Or.inr ⟨w, List.mem_cons_self, (List.mem_singleton.mp z).symm⟩
        · exact Or.inr ⟨v, List.mem_cons_of_mem _ z1, z2⟩
      · rintro (z | ⟨v, z1, z2⟩)
        · exact Or.inl (List.mem_append_left _ z)
        · rcases List.mem_cons.mp z1 with e | e
          · left; rw [← z2, e]; simp
          · exact Or.inr ⟨v, e, z2⟩
theorem OLs_ok : OkO r dy as p f (OLs r dy as p f) := ⟨(addO_mem _ [] List.nodup_nil).1, fun _ => Iff.rfl⟩
theorem OLs_mem {o : Nat} : o ∈ OLs r dy as p f ↔ ∃ w, w ∈ chF r f ∧ plB r dy as p w = true ∧ own r w = o := by
  unfold OLs
  rw [(addO_mem _ [] List.nodup_nil).2]
  constructor
  · rintro (z | ⟨w, z1, z2⟩)
    · cases z
    · have := PLs_mem.mp z1; exact ⟨w, this.1, this.2, z2⟩
  · rintro ⟨w, z1, z2, z3⟩
    exact Or.inr ⟨w, PLs_mem.mpr ⟨z1, z2⟩, z3⟩
/-- who has a place lies there, and is of the folio -/
theorem OLs_ch (hI : RI r) {o : Nat} (h : o ∈ OLs r dy as p f) : o ∈ chF r f ∧ liesB r dy as o p = true ∧ rI r 3 o ≠ 6 := by
  obtain ⟨w, h1, h2, h3⟩ := OLs_mem.mp h
  have hm := chF_mem.mp h1
  by_cases h6 : rI r 3 w = 6
  · have hv := pl_vW hI h1 h2
    have h24 : ix r 24 w = o := by unfold own at h3; rw [if_pos h6] at h3; exact h3
    have hE := hI.2.2.2.1 w hm.1 hm.2.1
    have hb := hE.2.2.2.2.2.2.2.1 (hv.2.2 h6)
    have ho := (own_in hI hv)
    rw [h3] at ho
    have hx := (hI.2.2.1.2.2.2.2.2 w hm.1 hm.2.1).1.1 (hv.2.2 h6)
    rw [h24] at hx hb
    refine ⟨chF_mem.mpr ⟨ho.1, ho.2.1, hb.2.2.1, hx.trans hm.2.2.2⟩, ?_, ?_⟩
    · unfold plB at h2; rw [if_pos h6, h24] at h2; simp at h2; exact h2.2
    · have := (hI.2.2.2.1 o ho.1 ho.2.1).2.2.2.2.2.2.2.2 (by rw [hb.2.2.2]; have := hm.1; omega)
      exact this.1
  · have : w = o := by unfold own at h3; rw [if_neg h6] at h3; exact h3
    rw [this] at h1 h2 h6
    unfold plB at h2; rw [if_neg h6] at h2
    exact ⟨h1, h2, h6⟩
theorem OkO.in (hI : RI r) {O : List Nat} (h : OkO r dy as p f O) : (∀ o ∈ O, 1 ≤ o ∧ o ≤ nE r) ∧ O.length ≤ nE r := by
  have a : ∀ o ∈ O, 1 ≤ o ∧ o ≤ nE r := fun o ho => by
    have := chF_mem.mp (OLs_ch hI ((h.2 o).mp ho)).1
    exact ⟨this.1, this.2.1⟩
  exact ⟨a, nodup_len O (nE r) h.1 a⟩
theorem OkO.swp {O : List Nat} (h : OkO r dy as p f O) {a b : Nat} (ha : a ∈ O) (hb : b ∈ O) : OkO r dy as p f (O.map (swp a b)) := by
  refine ⟨List.pairwise_map.mpr (h.1.imp (fun {x y} hxy e => hxy (by rw [← swp_swp a b x, e, swp_swp]))), fun o => ?_⟩
  rw [← h.2]
  have key : ∀ y, y ∈ O → _root_.Jvm.Pilot.CRankBookLaw_law_r7218_a59a83.swp a b y ∈ O := fun y hy => by
    unfold _root_.Jvm.Pilot.CRankBookLaw_law_r7218_a59a83.swp
    split
    · exact hb
    · split
      · exact ha
      · exact hy
  constructor
  · intro z
    obtain ⟨y, hy, rfl⟩ := List.mem_map.mp z
    exact key y hy
  · intro z
    exact List.mem_map.mpr ⟨_, key o z, swp_swp a b o⟩
theorem lies_up (hI : RI r) {e : Nat} (h1 : 1 ≤ e) (h2 : e ≤ nE r) (h : liesB r dy as e p = true) : liesB r dy as (whR r e) p = true := by
  have hE := hI.2.2.2.1 e h1 h2
  have H := HT_of hI.1 hI.2.2.2.1
  have hw2 : whR r (whR r e) = whR r e := hE.2.1.2.2.1
  unfold liesB at *
  simp only [Bool.and_eq_true] at h ⊢
  refine ⟨⟨⟨?_, ?_⟩, ?_⟩, ?_⟩
  · rw [hw2]; exact h.1.1.1
  · rw [← hE.2.2.2.1.2.1]; exact h.1.1.2
  · have := h.1.2
    unfold livB at *
    rw [show ix r 5 (whR r e) = ix r 5 e from hw2]; exact this
  · have := h.2
    unfold hloB at *
    rw [← lvs_filter H h1 h2 (whR r e) hE.2.1.1 (Nat.le_trans hE.2.1.2.1 h2) (blw_root hI.2.2.2.1 e h1 h2), List.any_eq_true] at this
    obtain ⟨y, hy, hy2⟩ := this
    rw [List.any_eq_true]
    exact ⟨y, (List.mem_filter.mp hy).1, hy2⟩
theorem cntP_in (hI : RI r) {q : Nat} (hq : q ∈ pos r) (h : cntP r dy as p f q = true) : gA r q ∈ OLs r dy as p f ∧ gB r q ∈ OLs r dy as p f := by
  have hq' := pos_mem.mp hq
  have hp := hI.2.2.2.2.1 q hq'.1 hq'.2
  have hz := hI.2.2.2.2.2.2.2.2.2.2 q hq'.1 hq'.2
  unfold cntP at h
  simp only [Bool.and_eq_true, decide_eq_true_eq] at h
  have one : ∀ e, 1 ≤ e → e ≤ nE r → foR r e = f → rI r 3 e ≠ 6 → liesB r dy as e p = true → whR r e ∈ OLs r dy as p f := fun e a b c d g => by
    have hE := hI.2.2.2.1 e a b
    obtain ⟨k1, k2, k3⟩ := whole_of_r hI a b
    have h6 : rI r 3 (whR r e) ≠ 6 := by rw [← hE.2.2.2.1.2.2.1]; exact d
    refine OLs_mem.mpr ⟨whR r e, chF_mem.mpr ⟨k1, k2, k3, by rw [← hE.2.2.2.1.2.1]; exact c⟩, ?_, ?_⟩
    · unfold plB; rw [if_neg h6]; exact lies_up hI a b g
    · unfold own; rw [if_neg h6]
  exact ⟨one _ hp.2.1 hp.2.2.1 h.1.1.1.1 hz.2.1 h.1.2, one _ hp.2.2.2.2.1 hp.2.2.2.2.2 (hz.1 ▸ h.1.1.1.1) hz.2.2.1 h.2⟩
theorem pstp_ok (hI : RI r) {s : List Nat × (Nat → Int32)} (h : OkO r dy as p f s.1) {q : Nat} (hq : q ∈ pos r) : OkO r dy as p f (pstp r dy as p f s q).1 := by
  unfold pstp
  split
  · rename_i hc
    have := cntP_in hI hq hc.1
    exact h.swp ((h.2 _).mpr this.1) ((h.2 _).mpr this.2)
  · exact h
theorem ordS_ok (hI : RI r) : OkO r dy as p f (ordS r dy as p f).1 := by
  unfold ordS
  have key : ∀ l : List Nat, (∀ q ∈ l, q ∈ pos r) → ∀ s : List Nat × (Nat → Int32), OkO r dy as p f s.1 → OkO r dy as p f (l.foldl (pstp r dy as p f) s).1 := by
    intro l
    induction l with
    | nil => intro _ s h; exact h
    | cons q t ih => intro hl s h; exact ih (fun y hy => hl y (List.mem_cons_of_mem _ hy)) _ (pstp_ok hI h (hl q List.mem_cons_self))
  exact key _ (fun _ h => h) _ OLs_ok
end O5
section O6
variable {X : Cx} {w0 : Wd} {m : Nat} {r : Rs} {dy as : Int32} {p f : Nat}
theorem s_standsAt (hS : Sh w0 m) {r1 : Rs} {O : List Nat} {mv : Nat → Int32} (h : OrF r O mv r1) (hO : O.length ≤ 300) (hin : ∀ o ∈ O, o ≤ 300) (e : Nat) (he : e ≤ 300) : CM X w0 m bX11_standsAt mX11_standsAt [vI (nI e)] r1 (pI fun v r2 => v = idx O e ∧ r2 = r1) := by
  have key : ∀ (T : List Nat) (i : Nat), i + T.length = O.length → (∀ j, j < T.length → O.getD (i + j) 0 = T.getD j 0) → iX11_standsAt_2 X w0 m (fun v r2 => v = idxR e i T ∧ r2 = r1) (nI e) (nI i) r1 := by
    intro T
    induction T with
    | nil =>
      intro i hi _
      refine rX11_standsAt_2 X w0 m hS _ _ _ r1 ⟨fun _ => ⟨rfl, rfl⟩, fun z => ?_⟩
      rw [h.1] at z
      exact absurd ((nI_leI (by omega) (by omega)).mpr (by simp at hi; omega)) z
    | cons o t ih =>
      intro i hi hT
      have hio : O.getD i 0 = o := by have := hT 0 (by simp); simpa using this
      have hmem : o ∈ O := by
        rw [← hio]
        have : i < O.length := by simp at hi; omega
        simp [List.getD, this]
      have ho := hin o hmem
      refine rX11_standsAt_2 X w0 m hS _ _ _ r1 ⟨fun z => ?_, fun _ => ?_⟩
      · rw [h.1, nI_leI (by omega) (by simp at hi; omega)] at z
        simp at hi; omega
      · have hil : i < O.length := by simp at hi; omega
        rw [nI_clamp (show i < 2 ^ 31 by omega), h.2.1 i hil, hio, nI_eq (by omega) (by omega), nI_1]
        refine ⟨inN (by omega) (by decide), fun z => ?_, fun z => ?_⟩
        · have := ih (i + 1) (by simp at hi; omega) (fun j hj => by
            have := hT (j + 1) (by simp; omega)
            rw [show i + 1 + j = i + (j + 1) by omega, this]; simp)
          have e2 : idxR e i (o :: t) = idxR e (i + 1) t := by show (if o = e then nI i else idxR e (i + 1) t) = _; rw [if_neg z]
          rw [e2]; exact this
        · refine ⟨?_, rfl⟩
          show _ = (if o = e then nI i else _)
          rw [if_pos z]
  exact pX11_standsAt X w0 m hS _ (nI e) r1 (key O 0 (by omega) (fun j _ => by rw [Nat.zero_add]))
theorem s_ordLoop (hS : Sh w0 m) (hI : RI r) (L : List Nat) (hL : L.length < 602) (hLv : ∀ w ∈ L, vW r w) (A : Rs → Prop) (h : ∀ r2, PlR r dy as L r2 → OrF r (L.foldl (addO r) []) (fun _ => 0) r2 → iX11_orderOn_80 X w0 m A (nI f) (nI p) 1 r2) : ∀ (T D : List Nat) (r1 : Rs), D ++ T = L → PlR r dy as L r1 → OrF r (D.foldl (addO r) []) (fun _ => 0) r1 → iX11_orderOn_13 X w0 m A (nI f) (nI p) (nI D.length) r1 := by
  have hN := hI.1.2.1.2
  intro T
  induction T with
  | nil =>
    intro D r1 hD hP hO
    rw [List.append_nil] at hD
    subst hD
    refine rX11_orderOn_13 X w0 m hS _ _ _ _ r1 ⟨fun _ => h r1 hP hO, fun z => ?_⟩
    rw [hP.2.1] at z
    exact absurd ((nI_leI (by omega) (by omega)).mpr (Nat.le_refl _)) z
  | cons w t ih =>
    intro D r1 hD hP hO
    have hDl : D.length < L.length := by rw [← hD]; simp
    have hg : L.getD D.length 0 = w := by rw [← hD]; simp [List.getD, List.getElem?_append]
    have hpl := hP.2.2 D.length hDl
    rw [hg] at hpl
    have hw := hLv w (by rw [← hD]; simp)
    obtain ⟨o1, o2, -, -⟩ := own_in hI hw
    obtain ⟨nd, hm⟩ := addO_mem (r := r) D [] List.nodup_nil
    have hin : ∀ o ∈ D.foldl (addO r) [], 1 ≤ o ∧ o ≤ nE r := fun o ho => by
      rcases (hm o).mp ho with z | ⟨v, z1, z2⟩
      · cases z
      · have := own_in hI (hLv v (by rw [← hD]; exact List.mem_append_left _ z1))
        rw [z2] at this; exact ⟨this.1, this.2.1⟩
    have hOl := nodup_len _ (nE r) nd hin
    have hv1 : vp_in (nI D.length) 602 := inN (by omega) (by decide)
    have hfold : ∀ O, (D ++ [w]).foldl (addO r) O = addO r (D.foldl (addO r) O) w := fun O => by rw [List.foldl_append]; rfl
    have hD' : (D ++ [w]) ++ t = L := by rw [← hD]; simp
    refine rX11_orderOn_13 X w0 m hS _ _ _ _ r1 ⟨fun z => ?_, fun _ => ?_⟩
    · rw [hP.2.1, nI_leI (by omega) (by omega)] at z; omega
    · rw [nI_clamp (show D.length < 2 ^ 31 by omega), hpl.1]
      refine ⟨hv1, (s_standsAt hS hO (by omega) (fun o ho => by have := hin o ho; omega) (own r w) (by omega)).I ?_⟩
      rintro u r2 ⟨rfl, rfl⟩
      rw [idx_m1 (by omega), nI_1]
      have el : D.length + 1 = (D ++ [w]).length := by simp
      rw [el]
      refine ⟨fun z => ?_, fun z => ⟨hv1, ?_⟩⟩
      · have hmem : own r w ∈ D.foldl (addO r) [] := Classical.byContradiction z
        refine ih (D ++ [w]) r2 hD' hP ?_
        rw [hfold, addO_pos hmem]; exact hO
      · rw [hO.1, nI_clamp (show (D.foldl (addO r) []).length < 2 ^ 31 by omega), hpl.1]
        refine ⟨inN (by omega) (by decide), ?_⟩
        rintro r9 rfl
        have e53 : rI (uI r2 55 (D.foldl (addO r) []).length (nI (own r w))) 53 D.length = nI (own r w) := hpl.1
        rw [e53, nI_clamp (show own r w < 2 ^ 31 by omega)]
        refine ⟨hv1, inN (by omega) (by decide), ?_⟩
        rintro r13 rfl r15 rfl
        have e58 : sS (uI (uI r2 55 (D.foldl (addO r) []).length (nI (own r w))) 56 (own r w) 0) 58 = nI (D.foldl (addO r) []).length := hO.1
        rw [e58, nI_1]
        refine ih (D ++ [w]) _ hD' ⟨⟨((hP.1.1.uI 55 _ _ rfl).uI 56 _ _ rfl).uS 58 _ rfl, hP.1.2.1, hP.1.2.2⟩, hP.2.1, hP.2.2⟩ ?_
        rw [hfold, addO_neg z]
        refine ⟨by show nI _ = _; congr 1; simp, fun j hj => ?_, fun o ho => ?_⟩
        · show (if 55 = 56 ∧ j = own r w then (0 : Int32) else if 55 = 55 ∧ j = (D.foldl (addO r) []).length then nI (own r w) else rI r2 55 j) = _
          rw [if_neg (by omega)]
          by_cases h1 : j = (D.foldl (addO r) []).length
          · rw [if_pos ⟨rfl, h1⟩, h1]; simp [List.getD, List.getElem?_append]
          · rw [if_neg (fun y => h1 y.2)]
            have h2 : j < (D.foldl (addO r) []).length := by simp at hj; omega
            rw [hO.2.1 j h2]
            simp [List.getD, List.getElem?_append, h2]
        · show (if 56 = 56 ∧ o = own r w then (0 : Int32) else if 56 = 55 ∧ o = (D.foldl (addO r) []).length then nI (own r w) else rI r2 56 o) = 0
          by_cases h1 : o = own r w
          · rw [if_pos ⟨rfl, h1⟩]
          · rw [if_neg (fun y => h1 y.2), if_neg (by omega)]
            rcases List.mem_append.mp ho with y | y
            · exact hO.2.2 o y
            · exact absurd (by simpa using y) h1
end O6
