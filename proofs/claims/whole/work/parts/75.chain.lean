/-! ===== a folio's chain: sorted, and one more put in ===== -/
theorem insW_nil (r : Rs) (e : Nat) : insW r e [] = [e] := rfl
theorem insW_cons (r : Rs) (e y : Nat) (t : List Nat) : insW r e (y :: t) = if rI r 13 y ≤ rI r 13 e then y :: insW r e t else e :: y :: t := by
  unfold insW
  by_cases h : rI r 13 y ≤ rI r 13 e
  · rw [if_pos h, List.takeWhile_cons_of_pos (by simpa using h), List.dropWhile_cons_of_pos (by simpa using h)]; rfl
  · rw [if_neg h, List.takeWhile_cons_of_neg (by simpa using h), List.dropWhile_cons_of_neg (by simpa using h)]; rfl
theorem insW_iff {r : Rs} {e z : Nat} : ∀ l : List Nat, z ∈ insW r e l ↔ z = e ∨ z ∈ l := by
  intro l
  induction l with
  | nil => rw [insW_nil]; simp
  | cons y t ih =>
    rw [insW_cons]
    split
    · rw [List.mem_cons, ih, List.mem_cons]
      constructor
      · rintro (h | h | h)
        · exact Or.inr (Or.inl h)
        · exact Or.inl h
        · exact Or.inr (Or.inr h)
      · rintro (h | h | h)
        · exact Or.inr (Or.inl h)
        · exact Or.inl h
        · exact Or.inr (Or.inr h)
    · rw [List.mem_cons]
def dLe (r : Rs) (a b : Nat) : Prop := rI r 13 a ≤ rI r 13 b
theorem insW_srt {r : Rs} {e : Nat} : ∀ l : List Nat, l.Pairwise (dLe r) → (insW r e l).Pairwise (dLe r) := by
  intro l
  induction l with
  | nil => intro _; rw [insW_nil]; exact List.pairwise_singleton _ _
  | cons y t ih =>
    intro h
    rw [insW_cons]
    rw [List.pairwise_cons] at h
    split
    · rename_i hy
      rw [List.pairwise_cons]
      refine ⟨fun z hz => ?_, ih h.2⟩
      rcases (insW_iff t).mp hz with q | q
      · rw [q]; exact hy
      · exact h.1 z q
    · rename_i hy
      rw [List.pairwise_cons]
      have hle : dLe r e y := by unfold dLe; rw [Int32.le_iff_toInt_le] at *; omega
      refine ⟨fun z hz => ?_, List.pairwise_cons.mpr h⟩
      rcases List.mem_cons.mp hz with q | q
      · rw [q]; exact hle
      · have := h.1 z q
        unfold dLe at *
        rw [Int32.le_iff_toInt_le] at *; omega
theorem chN_srt (r : Rs) (f : Nat) : ∀ n, (chN r f n).Pairwise (dLe r) := by
  intro n
  induction n with
  | zero => exact List.Pairwise.nil
  | succ n ih =>
    unfold chN
    split
    · exact insW_srt _ ih
    · exact ih
theorem insW_nodup {r : Rs} {e : Nat} : ∀ l : List Nat, l.Nodup → e ∉ l → (insW r e l).Nodup := by
  intro l
  induction l with
  | nil => intro _ _; rw [insW_nil]; exact List.nodup_cons.mpr ⟨by simp, List.nodup_nil⟩
  | cons y t ih =>
    intro h he
    rw [insW_cons]
    rw [List.mem_cons] at he
    split
    · rw [List.nodup_cons] at h ⊢
      refine ⟨fun q => ?_, ih h.2 (fun q => he (Or.inr q))⟩
      rcases (insW_iff t).mp q with z | z
      · exact he (Or.inl z.symm)
      · exact h.1 z
    · exact List.nodup_cons.mpr ⟨by rw [List.mem_cons]; exact he, h⟩
theorem chN_nodup (r : Rs) (f : Nat) : ∀ n, (chN r f n).Nodup := by
  intro n
  induction n with
  | zero => exact List.nodup_nil
  | succ n ih =>
    unfold chN
    split
    · exact insW_nodup _ ih (fun q => by have := (chN_mem n q).2.1; omega)
    · exact ih
/-- the two halves about the one to be put in -/
theorem cut_lt {r : Rs} {e : Nat} {l : List Nat} (h : l.Pairwise (dLe r)) : ∀ y ∈ l.dropWhile (fun y => decide (rI r 13 y ≤ rI r 13 e)), ¬ rI r 13 y ≤ rI r 13 e := by
  induction l with
  | nil => intro y hy; cases hy
  | cons a t ih =>
    intro y hy
    rw [List.pairwise_cons] at h
    by_cases ha : rI r 13 a ≤ rI r 13 e
    · rw [List.dropWhile_cons_of_pos (by simpa using ha)] at hy
      exact ih h.2 y hy
    · rw [List.dropWhile_cons_of_neg (by simpa using ha)] at hy
      rcases List.mem_cons.mp hy with q | q
      · rw [q]; exact ha
      · have := h.1 y q
        unfold dLe at this
        rw [Int32.le_iff_toInt_le] at *; omega
theorem cut_le {r : Rs} {e : Nat} {l : List Nat} : ∀ y ∈ l.takeWhile (fun y => decide (rI r 13 y ≤ rI r 13 e)), rI r 13 y ≤ rI r 13 e := by
  induction l with
  | nil => intro y hy; cases hy
  | cons a t ih =>
    intro y hy
    by_cases ha : rI r 13 a ≤ rI r 13 e
    · rw [List.takeWhile_cons_of_pos (by simpa using ha)] at hy
      rcases List.mem_cons.mp hy with q | q
      · rw [q]; exact ha
      · exact ih y q
    · rw [List.takeWhile_cons_of_neg (by simpa using ha)] at hy
      cases hy
theorem Lk_head {nx : Nat → Nat} {a : Nat} {l : List Nat} (h : Lk nx a l) : a = l.headD 0 := by
  cases l with
  | nil => exact h
  | cons b t => exact h.1
theorem Lk_ins {nx nx' : Nat → Nat} {q : Nat} (hq0 : q ≠ 0) : ∀ (A B : List Nat) (a : Nat), (A ++ B).Nodup → Lk nx a (A ++ B) → nx' q = B.headD 0 → (∀ z ∈ A ++ B, (A.getLast? = some z → nx' z = q) ∧ (A.getLast? ≠ some z → nx' z = nx z)) → Lk nx' (if A = [] then q else a) (A ++ q :: B) := by
  intro A
  induction A with
  | nil =>
    intro B a _ h hq hz
    rw [if_pos rfl]
    refine ⟨rfl, hq0, ?_⟩
    rw [hq, ← Lk_head (nx := nx) (a := a) (l := B) h]
    exact Lk_congr B a (fun z hz' => (hz z hz').2 (by simp)) h
  | cons y t ih =>
    intro B a hnd h hq hz
    rw [if_neg (by simp)]
    have hnd2 : (y :: (t ++ B)).Nodup := hnd
    rw [List.nodup_cons] at hnd2
    obtain ⟨h1, h2, h3⟩ := Lk_cons (t := t ++ B) h
    refine ⟨h1, h2, ?_⟩
    by_cases ht : t = []
    · subst ht
      have hy := (hz y (by simp)).1 (by simp)
      rw [hy]
      have := ih B (nx y) hnd2.2 h3 hq (fun z hz' => ⟨fun e => by simp at e, fun _ => (hz z (List.mem_cons_of_mem _ hz')).2 (fun e => by
        simp at e
        exact hnd2.1 (by rw [e]; exact hz'))⟩)
      rw [if_pos rfl] at this
      exact this
    · have hl : (y :: t).getLast? = t.getLast? := by
        cases t with
        | nil => exact absurd rfl ht
        | cons b t' => rfl
      have hy := (hz y (by simp)).2 (fun e => by
        rw [hl] at e
        exact hnd2.1 (List.mem_append_left _ (List.mem_of_getLast? e)))
      rw [hy]
      have := ih B (nx y) hnd2.2 h3 hq (fun z hz' => by
        have := hz z (List.mem_cons_of_mem _ hz')
        rw [hl] at this
        exact this)
      rw [if_neg ht] at this
      exact this
theorem c_insLoop {X : Cx} (P : Wd → Prop) (w : Wd) (l0 l1 : Nat) (g : Nat → Nat) (dt : Nat → Int32) (d : Int32) (h0 : wK w l0 = 4) (h1 : wK w l1 = 10) (h2 : wK w (wR w 9 2 l1) = 1) (h3 : wI w 0 0 (wR w 9 2 l1) = d) : ∀ (Bs As : List Nat) (a : Nat), (∀ y ∈ Bs ++ As, wK w (g y) = 10 ∧ wK w (wR w 9 2 (g y)) = 1 ∧ wI w 0 0 (wR w 9 2 (g y)) = dt y) → (∀ y ∈ Bs, ¬ dt y ≤ d) → (∀ y ∈ As, dt y ≤ d) → Lk (wR w 9 11) a ((Bs ++ As).map g) → (As = [] → jX3_insert_49 X P l0 l1 0 (wR w 3 3 l0) w) → (∀ y t, As = y :: t → jX3_insert_49 X P l0 l1 (g y) (wR w 9 12 (g y)) w) → jX3_insert_5 X P l0 l1 a w := by
  intro Bs
  induction Bs with
  | nil =>
    intro As a hy _ hA hk he hc
    cases As with
    | nil =>
      have ha : a = 0 := hk
      subst ha
      exact tX3_insert_5 X _ _ _ _ w ⟨fun _ => ⟨fun q => absurd rfl q, fun _ => ⟨h0, he rfl⟩⟩, fun q => absurd rfl q⟩
    | cons y t =>
      obtain ⟨rfl, hn, -⟩ := Lk_cons (t := t.map g) hk
      have h := hy y (by simp)
      refine tX3_insert_5 X _ _ _ _ w ⟨fun q => absurd q hn, fun _ => ⟨h.1, h.2.1, h1, h2, fun _ => ⟨fun _ => hc y t rfl, fun q => absurd q hn⟩, fun q => ?_⟩⟩
      rw [h.2.2, h3] at q
      exact absurd (hA y (by simp)) q
  | cons b t ih =>
    intro As a hy hB hA hk he hc
    obtain ⟨rfl, hn, hk2⟩ := Lk_cons (t := (t ++ As).map g) hk
    have h := hy b (by simp)
    refine tX3_insert_5 X _ _ _ _ w ⟨fun q => absurd q hn, fun _ => ⟨h.1, h.2.1, h1, h2, fun q => ?_, fun _ => ?_⟩⟩
    · rw [h.2.2, h3] at q
      exact absurd q (hB b (by simp))
    · exact ih As _ (fun z hz => hy z (List.mem_cons_of_mem _ hz)) (fun z hz => hB z (List.mem_cons_of_mem _ hz)) hA hk2 he hc
