/-! ===== claim, paper ===== -/
theorem par0 {w : Wd} {x : Nat} {r : Rs} (hz : wK w 0 = 0) (hE : RIE r) (h4 : CE w x r) {n : Nat} (h1 : 1 ≤ n) (h2 : n ≤ nE r) : (if paR r n = 0 then 0 else eA w x (paR r n)) = 0 ↔ paR r n = 0 := by
  constructor
  · intro h
    by_cases hp : paR r n = 0
    · exact hp
    · rw [if_neg hp] at h
      exact absurd h (K_nz hz (h4 _ (by omega) (by have := (hE n h1 h2).2.2.1.1; omega)).1.1)
  · intro h; rw [if_pos h]
theorem Ac_z {w : Wd} (hz : wK w 0 = 0) {a : Nat} {d k : Int32} (h : Ac w a d k) : a = 0 ↔ k = -1 := by
  constructor
  · intro ha
    by_cases hk : k = -1
    · exact hk
    · exact absurd ha (K_nz hz (h.2 hk).1)
  · exact h.1
theorem AT_claim {w : Wd} {x m q n : Nat} {r r' : Rs} {d k f y : Int32} (hA : AT w x m r r') (hq : Ac w q d k) (h1 : 1 ≤ n) (h2 : n ≤ nE r') (h3 : paR r' n = 0) (h5 : rI r' 3 n = 5) (hy : 1 ≤ y ∧ y ≤ 30) : AT (sR (sI (sI w 8 6 (wR w 9 3 (wA w x n)) f) 8 4 (wR w 9 3 (wA w x n)) y) 8 5 (wR w 9 3 (wA w x n)) q) x m r (uI (uI (uI (uI r' 20 n f) 21 n y) 22 n d) 23 n k) := by
  obtain ⟨hM, hD, hC, ⟨hF, hE, hW, ⟨pl, hP⟩, hX⟩, hI⟩ := hA
  refine ⟨MO_sR 8 5 _ q (by decide) (MO_sI 8 4 _ y (by decide) (MO_sI 8 6 _ f (by decide) hM)), hD, hC, ⟨CF_R (w := w) (r := r') rfl rfl rfl rfl rfl rfl rfl rfl rfl rfl rfl rfl rfl rfl rfl hF, hE, fun j a b c => ?_, ⟨pl, hP⟩, hX⟩, hI.1, hI.2.1, ⟨hI.2.2.1.1, hI.2.2.1.2.1, hI.2.2.1.2.2.1, hI.2.2.1.2.2.2.1, hI.2.2.1.2.2.2.2.1, fun e a b => ?_⟩, fun e a b => ?_, hI.2.2.2.2⟩
  rotate_left
  · have he := hI.2.2.1.2.2.2.2.2 e a b
    refine ⟨⟨he.1.1, fun hk => ?_⟩, he.2.1, fun hp => ⟨(he.2.2 hp).1, ?_, ?_, (he.2.2 hp).2.2.2⟩⟩
    · have hk' : rI r' 3 e ≠ 5 := hk
      show (if 23 = 23 ∧ e = n then k else rI r' 23 e) = -1
      rw [if_neg (fun z => hk' (by rw [z.2]; exact h5))]; exact he.1.2 hk'
    · show 1 ≤ (if 21 = 21 ∧ e = n then y else rI r' 21 e)
      by_cases z : e = n
      · rw [if_pos ⟨rfl, z⟩]; exact hy.1
      · rw [if_neg (fun q => z q.2)]; exact (he.2.2 hp).2.1
    · show (if 21 = 21 ∧ e = n then y else rI r' 21 e) ≤ 30
      by_cases z : e = n
      · rw [if_pos ⟨rfl, z⟩]; exact hy.2
      · rw [if_neg (fun q => z q.2)]; exact (he.2.2 hp).2.2.1
  · have he := hI.2.2.2.1 e a b
    refine ⟨he.1, he.2.1, he.2.2.1, ⟨he.2.2.2.1.1, he.2.2.2.1.2.1, he.2.2.2.1.2.2.1, he.2.2.2.1.2.2.2.1, he.2.2.2.1.2.2.2.2.1, fun hk => ?_⟩, he.2.2.2.2⟩
    have hk' : rI r' 3 e ≠ 5 := hk
    show (if 21 = 21 ∧ whR r' e = n then y else rI r' 21 (whR r' e)) = 2
    have hne : whR r' e ≠ n := fun q => hk' (by rw [he.2.2.2.1.2.2.1, q]; exact h5)
    simp only [hne, and_false, if_false]
    exact he.2.2.2.1.2.2.2.2.2 hk'
  have h := hW j a b c
  have ht := h.2.2.1
  refine ⟨h.1, h.2.1, ⟨ht.1, ht.2.1, ht.2.2.1, ht.2.2.2.1, ht.2.2.2.2.1, ?_, ?_, ?_, ht.2.2.2.2.2.2.2.2⟩, h.2.2.2.1, h.2.2.2.2⟩
  · show (if 8 = 8 ∧ 4 = 4 ∧ wR w 9 3 (wA w x j) = wR w 9 3 (wA w x n) then y else wI w 8 4 (wR w 9 3 (wA w x j))) = (if 21 = 21 ∧ j = n then y else rI r' 21 j)
    by_cases hj : j = n
    · subst hj; simp
    · have : wR w 9 3 (wA w x j) ≠ wR w 9 3 (wA w x n) := fun e => hj (hX.1 j n a b c h1 h2 h3 e)
      simp [hj, this, ht.2.2.2.2.2.1]
  · show Ac w (if 8 = 8 ∧ 5 = 5 ∧ wR w 9 3 (wA w x j) = wR w 9 3 (wA w x n) then q else wR w 8 5 (wR w 9 3 (wA w x j))) (if 22 = 22 ∧ j = n then d else rI r' 22 j) (if 23 = 23 ∧ j = n then k else rI r' 23 j)
    by_cases hj : j = n
    · subst hj; simpa using hq
    · have : wR w 9 3 (wA w x j) ≠ wR w 9 3 (wA w x n) := fun e => hj (hX.1 j n a b c h1 h2 h3 e)
      simp [hj, this, ht.2.2.2.2.2.2.1]
  · show (if 23 = 23 ∧ j = n then k else rI r' 23 j) ≠ -1 → (if 8 = 8 ∧ 6 = 6 ∧ wR w 9 3 (wA w x j) = wR w 9 3 (wA w x n) then f else wI w 8 6 (wR w 9 3 (wA w x j))) = (if 20 = 20 ∧ j = n then f else rI r' 20 j)
    by_cases hj : j = n
    · subst hj; simp
    · have : wR w 9 3 (wA w x j) ≠ wR w 9 3 (wA w x n) := fun e => hj (hX.1 j n a b c h1 h2 h3 e)
      simp only [hj, this, and_false, if_false]
      exact ht.2.2.2.2.2.2.2.1
def claF (r : Rs) (n : Nat) (f y : Int32) : Int32 := if paR r n ≠ 0 ∨ rI r 3 n ≠ 5 then 4 else if f < 0 ∨ 36500 < f ∨ y < 1 ∨ ¬ y ≤ 30 then 5 else if rI r 23 n ≠ -1 then 8 else 0
theorem c_claimFault {X : Cx} (w : Wd) (x : Nat) (r : Rs) (hz : wK w 0 = 0) (hI : RI r) (h4 : C4 w x r) (n : Nat) (f y : Int32) (h1 : 1 ≤ n) (h2 : n ≤ nE r) : Ct X bX10_claimFault mX10_claimFault [vR (eA w x n), vI f, vI y] w (qI fun v w' => v = claF r n f y ∧ w' = w) := by
  obtain ⟨hc, hf, hb, hE, hp, hd⟩ := hI
  have hCe := h4.2.1 n h1 h2
  obtain ⟨k1, k2, k3⟩ := whole_of_e hE h4.2.2.1 h1 h2
  have hk := h4.2.2.1 _ k1 k2 k3
  have h0 := K_nz hz hCe.1.1
  refine oX10_claimFault X _ _ f y w ⟨fun _ => ?_, fun q => absurd q h0⟩
  rw [hCe.1.2.2.2, par0 hz hE h4.2.1 h1 h2, hCe.1.2.2.1]
  refine ⟨hCe.1.1, fun q => ⟨by simp [claF, q], rfl⟩, fun q => ?_⟩
  have hwn : whR r n = n := (hE n h1 h2).2.1.2.2.2.1.mp q
  rw [hwn] at hk ⊢
  rw [hk.2.2.1.2.1, Ac_z hz hk.2.2.1.2.2.2.2.2.2.1]
  refine ⟨hk.1.1, hk.2.2.1.1, fun q2 => ⟨fun a => ⟨by simp [claF, q, q2, a], rfl⟩, fun a => ⟨fun b => ⟨by simp [claF, q, q2, b], rfl⟩, fun b => ⟨fun c => ⟨by simp [claF, q, q2, c], rfl⟩, fun c => ⟨fun d => ⟨fun e => ⟨by simp [claF, q, q2, a, b, c, d, e], rfl⟩, fun e => ⟨by simp [claF, q, q2, a, b, c, d, e], rfl⟩⟩, fun d => ⟨by simp [claF, q, q2, d], rfl⟩⟩⟩⟩⟩, fun q2 => ⟨by simp [claF, q2], rfl⟩⟩
theorem s_claimRef {X : Cx} {w0 : Wd} {m : Nat} (hS : Sh w0 m) (r : Rs) (hI : RI r) (n : Nat) (f y : Int32) (h1 : 1 ≤ n) (h2 : n ≤ nE r) : CM X w0 m bX11_claim mX11_claim [vI (nI n), vI f, vI y] r (pI fun u r1 => (claF r n f y ≠ 0 → u = 0 ∧ Pe (uS r 41 (claF r n f y)) r1) ∧ (claF r n f y = 0 → u = 1 ∧ Pe (uI (uI (uI (uI (uS r 41 0) 20 n f) 21 n y) 22 n (dnow r)) 23 n (sS r 39)) r1)) := by
  obtain ⟨hc, hf, hb, hE, hp, hd⟩ := hI
  have hN := hc.2.1.2
  have hnc : (nI n).toNatClampNeg = n := nI_clamp (by omega)
  have hv : vp_in (nI n) 301 := inN (by omega) (by omega)
  have hIn := hE n h1 h2
  have no : ∀ (f' : Int32), claF r n f y = f' → f' ≠ 0 → CM X w0 m bX11_no mX11_no [vI f'] r (pI fun x7 r9 => (x7 = 0 ∨ x7 = 1) ∧ (claF r n f y ≠ 0 → x7 = 0 ∧ Pe (uS r 41 (claF r n f y)) r9) ∧ (claF r n f y = 0 → x7 = 1 ∧ Pe (uI (uI (uI (uI (uS r 41 0) 20 n f) 21 n y) 22 n (dnow r)) 23 n (sS r 39)) r9)) := by
    intro f' hpf hf0
    refine (cm_no hS (Pe.rf r) f').I ?_
    rintro u r1 ⟨h01, rfl, hq⟩
    rw [hpf]
    exact ⟨h01, fun _ => ⟨rfl, hq⟩, fun q => absurd q hf0⟩
  refine pX11_claim X w0 m hS _ _ f y r ((s_isEntry hS r _).I ?_)
  rintro v r1 ⟨rfl, rfl⟩
  rw [ent_nI hc h1 h2, hnc, hIn.1.2.2.1, nI_z (show paR r1 n < 2 ^ 31 by have := hIn.2.2.1.1; omega)]
  refine ⟨fun _ => ⟨hv, fun q2 => no 4 (by simp [claF, q2]) (by decide), fun q2 => ⟨hv, fun q => ⟨fun a => no 5 (by simp [claF, q, q2, a]) (by decide), fun a => ⟨fun b => no 5 (by simp [claF, q, q2, b]) (by decide), fun b => ⟨fun c => no 5 (by simp [claF, q, q2, c]) (by decide), fun c => ⟨fun d => ⟨hv, fun e => ⟨hv, ?_⟩, fun e => no 8 (by simp [claF, q, q2, a, b, c, d, e]) (by decide)⟩, fun d => no 5 (by simp [claF, q, q2, d]) (by decide)⟩⟩⟩⟩, fun q => no 4 (by simp [claF, q]) (by decide)⟩⟩, fun q => absurd q (by decide)⟩
  have hpf : claF r1 n f y = 0 := by simp [claF, q, q2, a, b, c, d, e]
  rintro r2 rfl
  refine ⟨hv, ?_⟩
  rintro r3 rfl
  refine (s_dateNow hS _).I ?_
  rintro v r4 ⟨rfl, rfl⟩
  refine ⟨hv, ?_⟩
  rintro r5 rfl
  refine ⟨hv, ?_⟩
  rintro r6 rfl r7 rfl
  exact ⟨fun z => absurd hpf z, fun _ => ⟨rfl, Pe.rf _⟩⟩
theorem sm_claim (e f y : Int32) : SmI bX10_claim mX10_claim bX11_claim mX11_claim [vI e, vI f, vI y] := by
  intro X w x m r hA
  have hC := hA.2.2.1
  have hc := hA.2.2.2.2.1
  have h4 := hA.2.2.2.1
  refine oX10_claim X _ x e f y w ⟨hC.1.1, (c_entryAt w x r e hC hc).R ?_⟩
  rintro a w1 ⟨rfl, rfl⟩
  cases he : entB r e
  · rw [if_neg (by decide)]
    refine oX10_claimFault X _ 0 f y w1 ⟨fun q => absurd rfl q, fun _ => ⟨hC.1.1, (c_settle w1 x 1 hC.1.1).I ?_⟩⟩
    rintro v w2 ⟨rfl, rfl⟩
    refine ⟨fun _ => ⟨_, AT_st 1 hA, ?_⟩, fun q => absurd rfl q⟩
    have hS := (AT_st 1 hA).1.1
    refine pX11_claim X _ m hS _ e f y r ((s_isEntry hS r e).I ?_)
    rintro v r1 ⟨rfl, rfl⟩
    rw [he]
    exact ⟨fun q => absurd rfl q, fun _ => cm_no hS (Pe.rf _) 1⟩
  · rw [if_pos rfl]
    obtain ⟨n, rfl, h1, h2⟩ := ent_of hc he
    have hN := hc.2.1.2
    have hnc : (nI n).toNatClampNeg = n := nI_clamp (by omega)
    rw [hnc]
    have hCe := h4.2.1 n h1 h2
    have h0 := K_nz hA.2.1.1 hCe.1.1
    refine (c_claimFault w1 x r hA.2.1.1 hA.2.2.2.2 h4 n f y h1 h2).I ?_
    rintro v w2 ⟨rfl, rfl⟩
    refine ⟨hC.1.1, (c_settle w2 x _ hC.1.1).I ?_⟩
    rintro v w3 ⟨rfl, rfl⟩
    refine ⟨fun hq => ?_, fun hq => ⟨fun _ => ⟨hCe.1.1, ?_⟩, fun q => absurd q h0⟩⟩
    · rw [bI_0] at hq
      have hne : claF r n f y ≠ 0 := by simpa using hq
      refine ⟨_, AT_st (claF r n f y) hA, (s_claimRef (AT_st (claF r n f y) hA).1.1 r hA.2.2.2.2 n f y h1 h2).I ?_⟩
      rintro u r1 ⟨hu, -⟩
      exact hu hne
    · rw [bI_n] at hq
      have hz : claF r n f y = 0 := by simpa using hq
      rw [hz]
      have hA0 := AT_st 0 hA
      have hpa : paR r n = 0 := by
        by_cases h : paR r n = 0
        · exact h
        · rw [claF, if_pos (Or.inl h)] at hz; cases hz
      refine ⟨(h4.2.2.1 n h1 h2 hpa).1.1, hC.1.1, (c_newAct (sI w2 10 13 x 0) x (uS r 41 0) hA0.2.2.1).R ?_⟩
      intro q w4 hna
      have hA4 := hna.AT hA0
      have hwa := (AG_e hna.2.2.1 hA0).2.2 n h1 h2
      have hk4 := hA4.2.2.2.1.2.2.1 n h1 h2 hpa
      have hw : wR (sI w2 10 13 x 0) 9 3 (wR (sI w2 10 13 x 0) 2 1 (eA w2 x n)) = wR w4 9 3 (wA w4 x n) := by
        rw [hwa]
        exact ((hna.2.2.1 (wA (sI w2 10 13 x 0) x n) (by rw [(hA0.2.2.2.1.2.2.1 n h1 h2 hpa).1.1]; decide)).2.2.2.2.1 9 3).symm
      rw [hw]
      refine ⟨hk4.2.2.1.1, oX8_claimAhead X _ _ f y q w4 ⟨hk4.2.2.1.1, ?_⟩⟩
      rintro w5 rfl w6 rfl w7 rfl
      have h5 : rI r 3 n = 5 := by
        by_cases h : rI r 3 n = 5
        · exact h
        · rw [claF, if_pos (Or.inr h)] at hz; cases hz
      have hT := AT_claim (f := f) (y := y) (r' := uS r 41 0) hA4 (hna.Ac (today_ne hA0.2.2.2.2.2.2.2.2.2)) h1 h2 hpa h5 (by
        have h30 : ¬ y < 1 ∧ y ≤ 30 := by
          unfold claF at hz
          refine ⟨?_, ?_⟩ <;> apply Classical.byContradiction <;> intro z <;> revert hz <;> simp [z] <;> grind
        refine ⟨?_, h30.2⟩
        have := h30.1
        rw [Int32.lt_iff_toInt_lt] at this; rw [Int32.le_iff_toInt_le]; omega)
      refine ⟨_, hT, (s_claimRef hT.1.1 r hA.2.2.2.2 n f y h1 h2).I ?_⟩
      rintro u r1 ⟨-, hu⟩
      exact hu hz
theorem AT_paper {w : Wd} {x m n : Nat} {r r' : Rs} {v u : Int32} (hv : v = bI (decide (u = 0))) (hu : u = 0 ∨ u = 1) (hA : AT w x m r r') (h1 : 1 ≤ n) (h2 : n ≤ nE r') (h3 : paR r' n = 0) : AT (sI w 9 5 (wA w x n) v) x m r (uI r' 19 n u) := by
  obtain ⟨hM, hD, hC, ⟨hF, hE, hW, ⟨pl, hP⟩, hX⟩, hI⟩ := hA
  refine ⟨MO_sI 9 5 _ v (by decide) hM, hD, hC, ⟨CF_R (w := w) (r := r') rfl rfl rfl rfl rfl rfl rfl rfl rfl rfl rfl rfl rfl rfl rfl hF, hE, fun j a b c => ?_, ⟨pl, hP⟩, hX⟩, hI.1, hI.2.1, ⟨fun i => ?_, fun e he => ?_, hI.2.2.1.2.2⟩, hI.2.2.2⟩
  · have h := hW j a b c
    refine ⟨⟨h.1.1, h.1.2.1, h.1.2.2.1, h.1.2.2.2.1, ?_⟩, h.2.1, h.2.2.1, h.2.2.2.1, h.2.2.2.2⟩
    show (if 9 = 9 ∧ 5 = 5 ∧ wA w x j = wA w x n then v else wI w 9 5 (wA w x j)) = bI (decide ((if 19 = 19 ∧ j = n then u else rI r' 19 j) = 0))
    by_cases hj : j = n
    · subst hj; simp [hv]
    · have : wA w x j ≠ wA w x n := fun e => hj (wA_inj hI.1 hE hW a b c h1 h2 h3 e)
      simp [hj, this, h.1.2.2.2.2]
  · refine ⟨(hI.2.2.1.1 i).1, (hI.2.2.1.1 i).2.1, ?_⟩
    show (if 19 = 19 ∧ i = n then u else rI r' 19 i) = 0 ∨ (if 19 = 19 ∧ i = n then u else rI r' 19 i) = 1
    by_cases hj : i = n
    · simpa [hj] using hu
    · simpa [hj] using (hI.2.2.1.1 i).2.2
  · have q := hI.2.2.1.2.1 e he
    have hn : e ≠ n := fun z => by have : nE r' < e := he; omega
    refine ⟨q.1, ?_, q.2.2⟩
    show (if 19 = 19 ∧ e = n then u else rI r' 19 e) = 0
    rw [if_neg (fun z => hn z.2)]; exact q.2.1
theorem sm_paper (e v : Int32) (hv : v = 0 ∨ v = 1) : SmI bX10_paper mX10_paper bX11_paper mX11_paper [vI e, vI v] := by
  intro X w x m r hA
  have hC := hA.2.2.1
  have hc := hA.2.2.2.2.1
  have h4 := hA.2.2.2.1
  refine oX10_paper X _ x e v w ⟨hC.1.1, (c_entryAt w x r e hC hc).R ?_⟩
  rintro a w1 ⟨rfl, rfl⟩
  cases he : entB r e
  · rw [if_neg (by decide)]
    refine oX10_paperFault X _ 0 w1 ⟨fun q => absurd rfl q, fun _ => ⟨hC.1.1, (c_settle w1 x 1 hC.1.1).I ?_⟩⟩
    rintro v' w2 ⟨rfl, rfl⟩
    refine ⟨fun _ => ⟨_, AT_st 1 hA, ?_⟩, fun q => absurd rfl q⟩
    have hS := (AT_st 1 hA).1.1
    refine pX11_paper X _ m hS _ e v r ((s_isEntry hS r e).I ?_)
    rintro v' r1 ⟨rfl, rfl⟩
    rw [he]
    exact ⟨fun q => absurd rfl q, fun _ => cm_no hS (Pe.rf _) 1⟩
  · rw [if_pos rfl]
    obtain ⟨n, rfl, h1, h2⟩ := ent_of hc he
    have hN := hc.2.1.2
    have hnc : (nI n).toNatClampNeg = n := nI_clamp (by omega)
    rw [hnc]
    have hCe := h4.2.1 n h1 h2
    have h0 := K_nz hA.2.1.1 hCe.1.1
    have hE := hA.2.2.2.2.2.2.2.1
    have hIn := hE n h1 h2
    obtain ⟨k1, k2, k3⟩ := whole_of_e hE h4.2.2.1 h1 h2
    have hk := h4.2.2.1 _ k1 k2 k3
    have hkd : rI r 3 (whR r n) = rI r 3 n := (hIn.2.2.2.1.2.2.1).symm
    have hvn : vp_in (nI n) 301 := inN (by omega) (by omega)
    -- the reference, done
    have rdone : ∀ (w' : Wd), Sh w' m → (rI r 3 n = 2 ∨ rI r 3 n = 3) → CM X w' m bX11_paper mX11_paper [vI (nI n), vI v] r (pI fun u r1 => u = 1 ∧ Pe (uI (uS r 41 0) 19 (whR r n) (1 - v)) r1) := by
      intro w' hS hkk
      have hi : iX11_paper_40 X w' m (fun u r1 => u = 1 ∧ Pe (uI (uS r 41 0) 19 (whR r n) (1 - v)) r1) (nI n) v r := by
        refine rX11_paper_40 X _ m hS _ _ v r ?_
        rw [hnc, hIn.1.2.1, nI_clamp (show whR r n < 2 ^ 31 by omega)]
        refine ⟨hvn, fun q => ⟨inN (by omega) (by omega), ?_⟩, fun q => ⟨inN (by omega) (by omega), ?_⟩⟩
        · rintro r1 rfl r2 rfl
          have : v = 1 := hv.resolve_left q
          subst this
          exact ⟨rfl, Pe.rf _⟩
        · rintro r1 rfl r2 rfl
          subst q
          exact ⟨rfl, Pe.rf _⟩
      refine pX11_paper X _ m hS _ _ v r ((s_isEntry hS r _).I ?_)
      rintro v' r1 ⟨rfl, rfl⟩
      rw [he, hnc]
      refine ⟨fun _ => ⟨hvn, fun _ => hi, fun q => ⟨hvn, fun _ => hi, fun q2 => ?_⟩⟩, fun q => absurd q (by decide)⟩
      rcases hkk with hkk | hkk
      · exact absurd hkk q
      · exact absurd hkk q2
    have good : (rI r 3 n = 2 ∨ rI r 3 n = 3) → Ct X bX10_settle mX10_settle [vR x, vI 0] w1 (qI fun x7 w6 => ((x7 = 0) → ∃ r', AT w6 x m r r' ∧ CM X w6 m bX11_paper mX11_paper [vI (nI n), vI v] r (pI fun u r1 => u = 0 ∧ Pe r' r1)) ∧ ((¬ x7 = 0) → ((¬ eA w1 x n = 0) → wK w6 (eA w1 x n) = 3 ∧ wK w6 (wR w6 2 1 (eA w1 x n)) = 10 ∧ (v = 0 ∨ v = 1) ∧ ∀ w13 : Wd, w13 = sI w6 9 5 (wR w6 2 1 (eA w1 x n)) v → ∃ r', AT w13 x m r r' ∧ CM X w13 m bX11_paper mX11_paper [vI (nI n), vI v] r (pI fun u r1 => u = 1 ∧ Pe r' r1)) ∧ ((eA w1 x n = 0) → ∃ r', AT w6 x m r r' ∧ CM X w6 m bX11_paper mX11_paper [vI (nI n), vI v] r (pI fun u r1 => u = 0 ∧ Pe r' r1)))) := by
      intro hkk
      refine (c_settle w1 x 0 hC.1.1).I ?_
      rintro v' w2 ⟨rfl, rfl⟩
      refine ⟨fun q => absurd q (by decide), fun _ => ⟨fun _ => ?_, fun q => absurd q h0⟩⟩
      have hw : wR (sI w1 10 13 x 0) 2 1 (eA w1 x n) = wA (sI w1 10 13 x 0) x (whR r n) := hCe.1.2.2.1
      rw [hw]
      refine ⟨hCe.1.1, hk.1.1, hv, ?_⟩
      rintro w3 rfl
      have hT := AT_paper (r' := uS r 41 0) (u := 1 - v) (v := v) (by rcases hv with rfl | rfl <;> decide) (by rcases hv with rfl | rfl <;> decide) (AT_st 0 hA) k1 k2 k3
      exact ⟨_, hT, rdone _ hT.1.1 hkk⟩
    refine oX10_paperFault X _ _ w1 ⟨fun _ => ?_, fun q => absurd q h0⟩
    rw [hCe.1.2.2.1]
    refine ⟨hCe.1.1, hk.1.1, hk.2.2.1.1, oX8_hasPaper X _ _ w1 ⟨hk.2.2.1.1, ?_⟩⟩
    rw [hk.2.2.1.2.1, hkd]
    refine ⟨fun q => ⟨fun z => absurd z (by decide), fun _ => ⟨hC.1.1, good (Or.inl q)⟩⟩, fun q => ⟨fun q2 => ⟨fun _ => ⟨hC.1.1, (c_settle w1 x 4 hC.1.1).I ?_⟩, fun z => absurd rfl z⟩, fun q2 => ⟨fun z => absurd z (by decide), fun _ => ⟨hC.1.1, good (Or.inr q2)⟩⟩⟩⟩
    rintro v' w2 ⟨rfl, rfl⟩
    refine ⟨fun _ => ⟨_, AT_st 4 hA, ?_⟩, fun z => absurd rfl z⟩
    have hS := (AT_st 4 hA).1.1
    refine pX11_paper X _ m hS _ _ v r ((s_isEntry hS r _).I ?_)
    rintro v' r1 ⟨rfl, rfl⟩
    rw [he, hnc]
    exact ⟨fun _ => ⟨hvn, fun z => absurd z q, fun _ => ⟨hvn, fun z => absurd z q2, fun _ => cm_no hS (Pe.rf _) 4⟩⟩, fun z => absurd z (by decide)⟩
