/-! ===== enter: the objects made ===== -/
theorem nO_z {w : Wd} {ci q : Nat} (h : q ≠ 0) : wK (nO w ci q) 0 = wK w 0 := by rw [(S_nO w ci q).2.2.2.2.1, if_neg (fun e => h e.symm)]
theorem nO_I {w : Wd} {ci q c k : Nat} : wI (nO w ci q) c k q = 0 := by rw [(S_nO w ci q).2.2.2.2.2.1]; simp
theorem nO_J {w : Wd} {ci q c k : Nat} : wJ (nO w ci q) c k q = 0 := by rw [(S_nO w ci q).2.2.2.2.2.2.1]; simp
theorem nO_R {w : Wd} {ci q c k : Nat} : wR (nO w ci q) c k q = 0 := by rw [(S_nO w ci q).2.2.2.2.2.2.2]; simp
theorem c_newTerms {X : Cx} (w : Wd) (q : Nat) (hq : wK w q = 0) (h0 : q ≠ 0) (k rt : Int32) (s : Int64) (d : Int32) : Ct X bX8_init mX8_init [vR q, vI k, vI rt, vJ s, vI d] (nO w 8 q) (qV fun w' => Ag w w' ∧ wK w' 0 = wK w 0 ∧ (∀ a, wK w' a = 0 → wK w a = 0) ∧ wK w' q = 9 ∧ wI w' 8 0 q = k ∧ wI w' 8 1 q = rt ∧ wJ w' 8 2 q = s ∧ wI w' 8 3 q = d ∧ wI w' 8 4 q = 2 ∧ wR w' 8 5 q = 0 ∧ wI w' 8 7 q = 0) := by
  refine oX8_init X _ q k rt s d _ ⟨by rw [nO_new]; decide, nO_new, ?_⟩
  rintro w3 rfl w5 rfl w7 rfl w9 rfl w11 rfl
  refine ⟨((((Ag.nO (w := w) 8 q hq).sI 8 0 q _ hq).sI 8 1 q _ hq).sJ 8 2 q _ hq |>.sI 8 3 q _ hq).sI 8 4 q _ hq, nO_z h0, fun a ha => ?_, nO_new, by simp [S_sI, S_sJ], by simp [S_sI, S_sJ], by simp [S_sI, S_sJ], by simp [S_sI, S_sJ], by simp [S_sI, S_sJ], by simp [S_sI, S_sJ, nO_R], by simp [S_sI, S_sJ, nO_I]⟩
  have ha' : wK (nO w 8 q) a = 0 := ha
  rw [(S_nO w 8 q).2.2.2.2.1] at ha'
  by_cases e : a = q
  · rw [e]; exact hq
  · rw [if_neg e] at ha'; exact ha'
theorem c_newWhole {X : Cx} (w : Wd) (q : Nat) (hq : wK w q = 0) (h0 : q ≠ 0) (fo : Nat) (P : Int64) (qa qt : Nat) : Ct X bX9_init mX9_init [vR q, vR fo, vJ P, vR qa, vR qt] (nO w 9 q) (qV fun w' => Ag w w' ∧ wK w' 0 = wK w 0 ∧ (∀ a, wK w' a = 0 → wK w a = 0) ∧ wK w' q = 10 ∧ wR w' 9 0 q = fo ∧ wJ w' 9 1 q = P ∧ wR w' 9 2 q = qa ∧ wR w' 9 3 q = qt ∧ wR w' 9 4 q = 0 ∧ wI w' 9 5 q = 1 ∧ wR w' 9 6 q = 0 ∧ wR w' 9 7 q = 0) := by
  refine oX9_init X _ q fo P qa qt _ ⟨by rw [nO_new]; decide, nO_new, ?_⟩
  rintro w3 rfl w5 rfl w7 rfl w9 rfl w11 rfl
  refine ⟨((((Ag.nO (w := w) 9 q hq).sR 9 0 q _ hq).sJ 9 1 q _ hq).sR 9 2 q _ hq |>.sR 9 3 q _ hq).sI 9 5 q _ hq, nO_z h0, fun a ha => ?_, nO_new, by simp [S_sI, S_sJ, S_sR], by simp [S_sI, S_sJ, S_sR], by simp [S_sI, S_sJ, S_sR], by simp [S_sI, S_sJ, S_sR], by simp [S_sI, S_sJ, S_sR, nO_R], by simp [S_sI, S_sJ, S_sR], by simp [S_sI, S_sJ, S_sR, nO_R], by simp [S_sI, S_sJ, S_sR, nO_R]⟩
  have ha' : wK (nO w 9 q) a = 0 := ha
  rw [(S_nO w 9 q).2.2.2.2.1] at ha'
  by_cases e : a = q
  · rw [e]; exact hq
  · rw [if_neg e] at ha'; exact ha'
theorem c_newEntry {X : Cx} (w : Wd) (q : Nat) (hq : wK w q = 0) (h0 : q ≠ 0) (n : Int32) (qw pa : Nat) (sm : Int64) (ow : Int32) : Ct X bX2_init mX2_init [vR q, vI n, vR qw, vR pa, vJ sm, vI ow] (nO w 2 q) (qV fun w' => Ag w w' ∧ wK w' 0 = wK w 0 ∧ (∀ a, wK w' a = 0 → wK w a = 0) ∧ wK w' q = 3 ∧ wI w' 2 0 q = n ∧ wR w' 2 1 q = qw ∧ wR w' 2 2 q = pa ∧ wI w' 2 3 q = ow ∧ wJ w' 2 4 q = sm ∧ wI w' 2 5 q = 0 ∧ wR w' 2 6 q = 0 ∧ wR w' 2 7 q = 0 ∧ wR w' 2 8 q = 0 ∧ wJ w' 2 11 q = 0 ∧ wJ w' 2 12 q = 0) := by
  refine oX2_init X _ q n qw pa sm ow _ ⟨by rw [nO_new]; decide, nO_new, ?_⟩
  rintro w3 rfl w5 rfl w7 rfl w9 rfl w11 rfl
  refine ⟨((((Ag.nO (w := w) 2 q hq).sI 2 0 q _ hq).sR 2 1 q _ hq).sR 2 2 q _ hq |>.sJ 2 4 q _ hq).sI 2 3 q _ hq, nO_z h0, fun a ha => ?_, nO_new, by simp [S_sI, S_sJ, S_sR], by simp [S_sI, S_sJ, S_sR], by simp [S_sI, S_sJ, S_sR], by simp [S_sI, S_sJ, S_sR], by simp [S_sI, S_sJ, S_sR], by simp [S_sI, S_sJ, S_sR, nO_I], by simp [S_sI, S_sJ, S_sR, nO_R], by simp [S_sI, S_sJ, S_sR, nO_R], by simp [S_sI, S_sJ, S_sR, nO_R], by simp [S_sI, S_sJ, S_sR, nO_J], by simp [S_sI, S_sJ, S_sR, nO_J]⟩
  have ha' : wK (nO w 2 q) a = 0 := ha
  rw [(S_nO w 2 q).2.2.2.2.1] at ha'
  by_cases e : a = q
  · rw [e]; exact hq
  · rw [if_neg e] at ha'; exact ha'
