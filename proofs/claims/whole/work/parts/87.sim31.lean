/-! ===== split, hand: the leaves of the new state ===== -/
theorem pt_lvs {r : Rs} {n : Nat} {s : Int64} {ow : Int32} (hI : RI r) (h1 : 1 ≤ n) (h2 : n ≤ nE r) (hn : nE r ≤ 298) (hlf : fiR r n = 0) (hk : rI r 3 n ≠ 6) : ∀ k, 1 ≤ k → k ≤ nE r → lvs (fiR (ptR r (nE r + 1) n s ow)) k = (lvs (fiR r) k).flatMap (fun y => if y = n then [nE r + 1, nE r + 1 + 1] else [y]) := pt_lv0 hI h1 h2 hn hlf
