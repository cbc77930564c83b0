/-! ===== split, hand: the leaves of the new state ===== -/
theorem pt_lvs {r : Rs} {n : Nat} {s : Int64} {ow : Int32} (hI : RI r) (h1 : 1 ≤ n) (h2 : n ≤ nE r) (hn : nE r ≤ 298) (hlf : fiR r n = 0) (hk : rI r 3 n ≠ 6) : ∀ k, 1 ≤ k → k ≤ nE r → lvs (fiR (ptR r (nE r + 1) n s ow)) k = (lvs (fiR r) k).flatMap (fun y => if y = n then [nE r + 1, nE r + 1 + 1] else [y]) := by
  have hI' := pt_RI (s := s) (ow := ow) hI h1 h2 hn hlf hk
  have hN : nE (ptR r (nE r + 1) n s ow) = nE r + 1 + 1 := pt_nE _ _ _ _ _ (by omega)
  have hfi := pt_fi r (nE r + 1) n s ow (by omega)
  have H := HT_of hI.1 hI.2.2.2.1
  have H' := HT_of hI'.1 hI'.2.2.2.1
  refine tree_ind H (fun e a b h3 => ?_) (fun e a b h3 p1 p2 => ?_)
  · rw [lvs_leaf H h3]
    by_cases he : e = n
    · have hf : fiR (ptR r (nE r + 1) n s ow) e = nE r + 1 := by rw [hfi, if_pos he]
      have g1 : fiR (ptR r (nE r + 1) n s ow) (nE r + 1) = 0 := by rw [hfi, if_neg (by omega), if_neg (by omega), if_pos rfl]
      have g2 : fiR (ptR r (nE r + 1) n s ow) (nE r + 1 + 1) = 0 := by rw [hfi, if_neg (by omega), if_pos rfl]
      rw [lvs_kids H' a (by rw [hN]; omega) (by rw [hf]; omega), hf, lvs_leaf H' g1, lvs_leaf H' g2]
      simp [he]
    · have hf : fiR (ptR r (nE r + 1) n s ow) e = 0 := by rw [hfi, if_neg he, if_neg (by omega), if_neg (by omega)]; exact h3
      rw [lvs_leaf H' hf]
      simp [he]
  · have he : e ≠ n := fun z => h3 (by rw [z]; exact hlf)
    have hf : fiR (ptR r (nE r + 1) n s ow) e = fiR r e := by rw [hfi, if_neg he, if_neg (by omega), if_neg (by omega)]
    rw [lvs_kids H a b h3, lvs_kids H' a (by rw [hN]; omega) (by rw [hf]; exact h3), hf, p1, p2, List.flatMap_append]
