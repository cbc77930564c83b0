/-! ===== split, hand: a leaf replaced in its whole's chain ===== -/
theorem blw_uniq {r : Rs} (hE : RIE r) {k : Nat} (hk : paR r k = 0) : ∀ e, 1 ≤ e → e ≤ nE r → blw (paR r) e k = true → whR r e = k := by
  intro e
  induction e using Nat.strongRecOn with
  | ind e ih =>
    intro h1 h2 hb
    have hI := hE e h1 h2
    rw [blw_eq (by omega) hI.2.2.1.1] at hb
    split at hb
    · rename_i he
      rw [← he] at hk ⊢
      exact hI.2.1.2.2.2.1.mp hk
    · by_cases hp : paR r e = 0
      · rw [hp, blw_0] at hb; cases hb
      · rw [← hI.2.1.2.2.2.2 hp]
        exact ih (paR r e) hI.2.2.1.1 (by omega) (by have := hI.2.2.1.1; omega) hb
theorem Lk_tl {nx : Nat → Nat} : ∀ (A B : List Nat) (h a : Nat), Lk nx h (A ++ a :: B) → Lk nx (nx a) B ∧ a ≠ 0 := by
  intro A
  induction A with
  | nil => intro B h a z; exact ⟨z.2.2, z.2.1⟩
  | cons y t ih => intro B h a z; exact ih B _ a z.2.2
theorem Lk_rep {nx nx' : Nat → Nat} {a q1 q2 : Nat} (h01 : q1 ≠ 0) (h02 : q2 ≠ 0) (e1 : nx' q1 = q2) (e2 : nx' q2 = nx a) : ∀ (A B : List Nat) (h : Nat), (A ++ a :: B).Nodup → Lk nx h (A ++ a :: B) → (∀ z ∈ A ++ a :: B, z ≠ a → (A.getLast? = some z → nx' z = q1) ∧ (A.getLast? ≠ some z → nx' z = nx z)) → Lk nx' (if A = [] then q1 else h) (A ++ q1 :: q2 :: B) := by
  intro A
  induction A with
  | nil =>
    intro B h nd hL hz
    refine ⟨rfl, h01, ?_⟩
    rw [e1]
    refine ⟨rfl, h02, ?_⟩
    rw [e2]
    have ha := (List.nodup_cons.mp nd).1
    refine Lk_congr _ _ (fun b hb => ?_) (Lk_tl [] B h a hL).1
    exact (hz b (List.mem_cons_of_mem _ hb) (fun q => ha (q ▸ hb))).2 (by simp)
  | cons y t ih =>
    intro B h nd hL hz
    obtain ⟨h1, h2, h3⟩ := Lk_cons (t := t ++ a :: B) hL
    have nd' := List.nodup_cons.mp (show (y :: (t ++ a :: B)).Nodup from nd)
    have hya : y ≠ a := fun q => nd'.1 (by rw [q]; simp)
    rw [if_neg (by simp)]
    refine ⟨h1, h2, ?_⟩
    have hzy := hz y (by simp) hya
    have key := ih B (nx y) nd'.2 h3 (fun z hz1 hz2 => by
      have h4 := hz z (List.mem_cons_of_mem _ hz1) hz2
      cases t with
      | nil =>
        refine ⟨fun q => by simp at q, fun _ => h4.2 (fun q => ?_)⟩
        have : y = z := by simpa using q
        exact nd'.1 (this ▸ hz1)
      | cons b u => exact h4)
    cases t with
    | nil =>
      rw [hzy.1 (by simp)]
      exact key
    | cons b u =>
      rw [hzy.2 (fun q => nd'.1 (by
        have : (b :: u).getLast? = some y := q
        exact List.mem_append_left _ (List.mem_of_getLast? this)))]
      exact key
theorem hd_last (g : Nat → Nat) (l : List Nat) : (l.reverse.map g).headD 0 = ((l.map g).getLast?).getD 0 := by
  rw [List.headD_eq_head?_getD, List.map_reverse, List.head?_reverse]
theorem flat_id {N n : Nat} : ∀ l : List Nat, n ∉ l → l.flatMap (fl2 N n) = l := by
  intro l
  induction l with
  | nil => intro _; rfl
  | cons y t ih =>
    intro h
    rw [List.flatMap_cons, ih (fun q => h (List.mem_cons_of_mem _ q))]
    unfold fl2
    rw [if_neg (fun q => h (by rw [q]; exact List.mem_cons_self))]
    rfl
set_option maxHeartbeats 4000000 in
theorem c_replaceLeaf {X : Cx} (A : Wd → Prop) {w : Wd} {x m n q1 q2 : Nat} {r r' : Rs} (hA : AT w x m r r') (h1 : 1 ≤ n) (h2 : n ≤ nE r') (hlf : fiR r' n = 0)
    (k1 : wK w q1 = 3) (k2 : wK w q2 = 3) (h12 : q1 ≠ q2) (n1 : ∀ k, 1 ≤ k → k ≤ nE r' → eA w x k ≠ q1) (n2 : ∀ k, 1 ≤ k → k ≤ nE r' → eA w x k ≠ q2)
    (hQ : ∀ w', wK w' = wK w → wL w' = wL w → wJ w' = wJ w → xI w' = xI w → xJ w' = xJ w → xR w' = xR w →
      (∀ c k a, wI w' c k a = if c = 2 ∧ k = 5 ∧ a = eA w x n then 1 else wI w c k a) →
      (∀ c k, ¬ (c = 2 ∧ (k = 7 ∨ k = 8)) → ¬ (c = 9 ∧ (k = 9 ∨ k = 10)) → wR w' c k = wR w c k) →
      (∀ k, 1 ≤ k → k ≤ nE r' → paR r' k = 0 → Lk (wR w' 2 8) (wR w' 9 9 (wA w x k)) (((lvs (fiR r') k).flatMap (fl2 (nE r' + 1) n)).map (gl2 w x (nE r' + 1) q1 q2)) ∧ Lk (wR w' 2 7) (wR w' 9 10 (wA w x k)) (((lvs (fiR r') k).flatMap (fl2 (nE r' + 1) n)).reverse.map (gl2 w x (nE r' + 1) q1 q2))) → A w') :
    Ct X bX9_replaceLeaf mX9_replaceLeaf [vR (wA w x (whR r' n)), vR (eA w x n), vR q1, vR q2] w (qV A) := by
  obtain ⟨hM, hD, hC, ⟨hF, hE, hW, hP, hXX⟩, hI⟩ := hA
  have hz := hD.1
  have hRE := hI.2.2.2.1
  have hN := hI.1.2.1.2
  have hIn := hRE n h1 h2
  have hk1 := hIn.2.1.1
  have hk2 : whR r' n ≤ nE r' := Nat.le_trans hIn.2.1.2.1 h2
  have hkp : paR r' (whR r' n) = 0 := (hRE _ hk1 hk2).2.1.2.2.2.1.mpr hIn.2.1.2.2.1
  have H := HT_of hI.1 hRE
  have hWk := hW _ hk1 hk2 hkp
  generalize hKd : whR r' n = K at *
  have hmem : n ∈ lvs (fiR r') K := by
    have h := lvs_filter H h1 h2 K hk1 hk2 (by rw [← hKd]; exact blw_root hRE n h1 h2)
    rw [lvs_leaf H hlf] at h
    have : n ∈ (lvs (fiR r') K).filter (fun y => blw (paR r') y n) := by rw [h]; simp
    exact (List.mem_filter.mp this).1
  obtain ⟨La, Lb, hL⟩ := List.append_of_mem hmem
  have hnd := lvs_nodup H K hk1 hk2
  rw [hL] at hnd
  have mm : ∀ y ∈ La ++ n :: Lb, 1 ≤ y ∧ y ≤ nE r' := fun y hy => by
    have := lvs_mem H K hk1 hk2 y (by rw [hL]; exact hy)
    omega
  have hnA : n ∉ La := fun q => (List.nodup_append.mp hnd).2.2 n q n (by simp) rfl
  have hnB : n ∉ Lb := (List.nodup_cons.mp (List.nodup_append.mp hnd).2.1).1
  have einj : ∀ y z, (1 ≤ y ∧ y ≤ nE r') → (1 ≤ z ∧ z ≤ nE r') → eA w x y = eA w x z → y = z := fun y z a b h => eA_inj hI.1 hE a.1 a.2 b.1 b.2 h
  have gnd : (La.map (eA w x) ++ eA w x n :: Lb.map (eA w x)).Nodup := by
    have : ((La ++ n :: Lb).map (eA w x)).Nodup := by
      refine List.pairwise_map.mpr (List.Pairwise.imp_of_mem (R := fun a b => a ≠ b) ?_ hnd)
      intro a b ha hb h e
      exact h (einj a b (mm a ha) (mm b hb) e)
    simpa using this
  have c1 := hWk.2.2.2.2.1
  have c2 := hWk.2.2.2.2.2
  rw [hL, List.map_append, List.map_cons] at c1
  rw [hL, List.reverse_append, List.reverse_cons, List.append_assoc, List.map_append] at c2
  have c2' : Lk (wR w 2 7) (wR w 9 10 (wA w x K)) (Lb.reverse.map (eA w x) ++ eA w x n :: La.reverse.map (eA w x)) := by simpa using c2
  have nx0 : wR w 2 8 (eA w x n) = (Lb.map (eA w x)).headD 0 := Lk_head (Lk_tl _ _ _ _ c1).1
  have pv0 : wR w 2 7 (eA w x n) = (La.reverse.map (eA w x)).headD 0 := Lk_head (Lk_tl _ _ _ _ c2').1
  have hq1 := K_nz hz k1
  have hq2 := K_nz hz k2
  have fin : ∀ w', wK w' = wK w → wL w' = wL w → wJ w' = wJ w → xI w' = xI w → xJ w' = xJ w → xR w' = xR w →
      (∀ c k a, wI w' c k a = if c = 2 ∧ k = 5 ∧ a = eA w x n then 1 else wI w c k a) →
      (∀ c k, ¬ (c = 2 ∧ (k = 7 ∨ k = 8)) → ¬ (c = 9 ∧ (k = 9 ∨ k = 10)) → wR w' c k = wR w c k) →
      (∀ b, wR w' 9 9 b = if b = wA w x K ∧ La = [] then q1 else wR w 9 9 b) → (∀ b, wR w' 9 10 b = if b = wA w x K ∧ Lb = [] then q2 else wR w 9 10 b) →
      wR w' 2 8 q1 = q2 → wR w' 2 8 q2 = wR w 2 8 (eA w x n) → wR w' 2 7 q2 = q1 → wR w' 2 7 q1 = wR w 2 7 (eA w x n) →
      (∀ z, z ≠ q1 → z ≠ q2 → ((La.map (eA w x)).getLast? = some z → wR w' 2 8 z = q1) ∧ ((La.map (eA w x)).getLast? ≠ some z → wR w' 2 8 z = wR w 2 8 z)) →
      (∀ z, z ≠ q1 → z ≠ q2 → ((Lb.reverse.map (eA w x)).getLast? = some z → wR w' 2 7 z = q2) ∧ ((Lb.reverse.map (eA w x)).getLast? ≠ some z → wR w' 2 7 z = wR w 2 7 z)) → A w' := by
    intro w' f1 f2 f3 f4 f5 f6 f7 f8 f9 f10 g1 g2 g3 g4 g5 g6
    have nq : ∀ y, 1 ≤ y ∧ y ≤ nE r' → eA w x y ≠ q1 ∧ eA w x y ≠ q2 := fun y hy => ⟨n1 y hy.1 hy.2, n2 y hy.1 hy.2⟩
    have gG : ∀ l : List Nat, (∀ y ∈ l, 1 ≤ y ∧ y ≤ nE r') → l.map (gl2 w x (nE r' + 1) q1 q2) = l.map (eA w x) := fun l hl => map_c (fun y hy => by
      have := hl y hy
      unfold gl2
      rw [if_neg (by omega), if_neg (by omega)])
    refine hQ w' f1 f2 f3 f4 f5 f6 f7 f8 (fun k a b c => ?_)
    by_cases hkK : k = K
    · subst hkK
      have hfl : (lvs (fiR r') k).flatMap (fl2 (nE r' + 1) n) = La ++ (nE r' + 1) :: (nE r' + 1 + 1) :: Lb := by
        rw [hL, List.flatMap_append, List.flatMap_cons, flat_id La hnA, flat_id Lb hnB]
        unfold fl2
        rw [if_pos rfl]; rfl
      have gA := gG La (fun y hy => mm y (List.mem_append_left _ hy))
      have gB := gG Lb (fun y hy => mm y (List.mem_append_right _ (List.mem_cons_of_mem _ hy)))
      have gA' := gG La.reverse (fun y hy => mm y (List.mem_append_left _ (List.mem_reverse.mp hy)))
      have gB' := gG Lb.reverse (fun y hy => mm y (List.mem_append_right _ (List.mem_cons_of_mem _ (List.mem_reverse.mp hy))))
      have gN1 : gl2 w x (nE r' + 1) q1 q2 (nE r' + 1) = q1 := by unfold gl2; rw [if_pos rfl]
      have gN2 : gl2 w x (nE r' + 1) q1 q2 (nE r' + 1 + 1) = q2 := by unfold gl2; rw [if_neg (by omega), if_pos rfl]
      have mz : ∀ z ∈ La.map (eA w x) ++ eA w x n :: Lb.map (eA w x), z ≠ q1 ∧ z ≠ q2 := fun z hz' => by
        have : z ∈ (La ++ n :: Lb).map (eA w x) := by simpa using hz'
        obtain ⟨y, hy, rfl⟩ := List.mem_map.mp this
        exact nq y (mm y hy)
      rw [hfl]
      constructor
      · rw [List.map_append, List.map_cons, List.map_cons, gA, gB, gN1, gN2, f9]
        have := Lk_rep (nx := wR w 2 8) (nx' := wR w' 2 8) hq1 hq2 g1 g2 (La.map (eA w x)) (Lb.map (eA w x)) _ gnd c1 (fun z hz1 _ => g5 z (mz z hz1).1 (mz z hz1).2)
        have hAe : ∀ c : Nat, (if La.map (eA w x) = [] then q1 else c) = (if wA w x k = wA w x k ∧ La = [] then q1 else c) := fun c => by cases La <;> simp
        rw [hAe] at this
        exact this
      · rw [List.reverse_append, List.reverse_cons, List.reverse_cons, List.append_assoc, List.append_assoc, List.map_append, f10]
        have hnd' : (Lb.reverse.map (eA w x) ++ eA w x n :: La.reverse.map (eA w x)).Nodup := by
          have h0 := List.pairwise_reverse.mpr (gnd.imp (fun h => Ne.symm h))
          unfold List.Nodup
          simpa using h0
        have := Lk_rep (nx := wR w 2 7) (nx' := wR w' 2 7) hq2 hq1 g3 g4 (Lb.reverse.map (eA w x)) (La.reverse.map (eA w x)) _ hnd' c2' (fun z hz1 _ => by
          have hz2 : z ∈ La.map (eA w x) ++ eA w x n :: Lb.map (eA w x) := by
            rw [List.map_reverse, List.map_reverse] at hz1
            rcases List.mem_append.mp hz1 with q | q
            · exact List.mem_append_right _ (List.mem_cons_of_mem _ (List.mem_reverse.mp q))
            · rcases List.mem_cons.mp q with q | q
              · rw [q]; simp
              · exact List.mem_append_left _ (List.mem_reverse.mp q)
          exact g6 z (mz z hz2).1 (mz z hz2).2)
        have hBe : ∀ c : Nat, (if Lb.reverse.map (eA w x) = [] then q2 else c) = (if wA w x k = wA w x k ∧ Lb = [] then q2 else c) := fun c => by cases Lb <;> simp
        rw [hBe] at this
        rw [gB', List.map_append, List.map_append, gA', List.map_cons, List.map_nil, List.map_cons, List.map_nil, gN1, gN2]
        exact this
    · have hnk : n ∉ lvs (fiR r') k := fun q => by
        have := lvs_mem H k a b n q
        exact hkK ((blw_uniq hRE c n h1 h2 this.1).symm.trans hKd)
      have mk : ∀ y ∈ lvs (fiR r') k, 1 ≤ y ∧ y ≤ nE r' := fun y hy => by have := lvs_mem H k a b y hy; omega
      have hdis : ∀ y ∈ lvs (fiR r') k, y ∉ La ++ n :: Lb := fun y hy q => by
        have p1 := lvs_mem H k a b y hy
        have p2 := lvs_mem H K hk1 hk2 y (by rw [hL]; exact q)
        exact hkK ((blw_uniq hRE c y (mk y hy).1 (mk y hy).2 p1.1).symm.trans (blw_uniq hRE hkp y (mk y hy).1 (mk y hy).2 p2.1))
      have hne : wA w x k ≠ wA w x K := fun e => hkK (wA_inj hI.1 hE hW a b c hk1 hk2 hkp e)
      have h := hW k a b c
      rw [flat_id _ hnk, gG _ mk, gG _ (fun y hy => mk y (List.mem_reverse.mp hy)), f9, if_neg (fun q => hne q.1), f10, if_neg (fun q => hne q.1)]
      have ez : ∀ y ∈ lvs (fiR r') k, eA w x y ∉ La.map (eA w x) ∧ eA w x y ∉ Lb.map (eA w x) := fun y hy => by
        refine ⟨fun q => ?_, fun q => ?_⟩
        · obtain ⟨u, hu, e⟩ := List.mem_map.mp q
          have := einj u y (mm u (List.mem_append_left _ hu)) (mk y hy) e
          exact hdis y hy (by rw [← this]; exact List.mem_append_left _ hu)
        · obtain ⟨u, hu, e⟩ := List.mem_map.mp q
          have := einj u y (mm u (List.mem_append_right _ (List.mem_cons_of_mem _ hu))) (mk y hy) e
          exact hdis y hy (by rw [← this]; exact List.mem_append_right _ (List.mem_cons_of_mem _ hu))
      refine ⟨Lk_congr _ _ (fun z hz' => ?_) h.2.2.2.2.1, Lk_congr _ _ (fun z hz' => ?_) h.2.2.2.2.2⟩
      · obtain ⟨y, hy, rfl⟩ := List.mem_map.mp hz'
        exact (g5 _ (nq y (mk y hy)).1 (nq y (mk y hy)).2).2 (fun e => (ez y hy).1 (List.mem_of_getLast? e))
      · obtain ⟨y, hy, rfl⟩ := List.mem_map.mp hz'
        have hy := List.mem_reverse.mp hy
        refine (g6 _ (nq y (mk y hy)).1 (nq y (mk y hy)).2).2 (fun e => (ez y hy).2 ?_)
        have := List.mem_of_getLast? e
        rw [List.map_reverse] at this
        exact List.mem_reverse.mp this
  have an := hE n h1 h2
  have a1 := n1 n h1 h2
  have a2 := n2 n h1 h2
  refine oX9_replaceLeaf X _ _ _ _ _ w ⟨an.1.1, ?_⟩
  rintro w2 rfl
  refine ⟨k1, ?_⟩
  rintro w5 rfl w7 rfl
  refine ⟨k2, ?_⟩
  rintro w9 rfl w12 rfl
  have p7 : ∀ v1 v2 v3 v4, wR (sR (sR (sR (sR (sI w 2 5 (eA w x n) 1) 2 7 q1 v1) 2 8 q1 v2) 2 7 q2 v3) 2 8 q2 v4) 2 7 (eA w x n) = wR w 2 7 (eA w x n) := fun v1 v2 v3 v4 => by simp [S_sR, S_sI, a1, a2]
  have p8 : ∀ v1 v2 v3 v4, wR (sR (sR (sR (sR (sI w 2 5 (eA w x n) 1) 2 7 q1 v1) 2 8 q1 v2) 2 7 q2 v3) 2 8 q2 v4) 2 8 (eA w x n) = wR w 2 8 (eA w x n) := fun v1 v2 v3 v4 => by simp [S_sR, S_sI, a1, a2]
  have p8' : ∀ v1 v2 v3, wR (sR (sR (sR (sI w 2 5 (eA w x n) 1) 2 7 q1 v1) 2 8 q1 v2) 2 7 q2 v3) 2 8 (eA w x n) = wR w 2 8 (eA w x n) := fun v1 v2 v3 => by simp [S_sR, S_sI, a1, a2]
  have p7' : wR (sI w 2 5 (eA w x n) 1) 2 7 (eA w x n) = wR w 2 7 (eA w x n) := rfl
  rw [p7, p8', p7']
  have km : ∀ y, y ∈ La ++ n :: Lb → wK w (eA w x y) = 3 ∧ eA w x y ≠ 0 := fun y hy => by
    have := (hE y (mm y hy).1 (mm y hy).2).1.1
    exact ⟨this, K_nz hz this⟩
  have nq : ∀ y, y ∈ La ++ n :: Lb → eA w x y ≠ q1 ∧ eA w x y ≠ q2 := fun y hy => ⟨n1 y (mm y hy).1 (mm y hy).2, n2 y (mm y hy).1 (mm y hy).2⟩
  have h21 := Ne.symm h12
  have lastN : ∀ (P : Prop) (o z : Nat), ([] : List Nat).getLast? = some z → P := fun P o z h => by cases h
  cases hLa : La.reverse with
  | nil =>
    have hA0 : La = [] := List.reverse_eq_nil_iff.mp hLa
    have hpv : wR w 2 7 (eA w x n) = 0 := by rw [pv0, hLa]; rfl
    rw [hpv]
    refine ⟨fun q => absurd rfl q, fun _ => ⟨hWk.1.1, ?_⟩⟩
    intro w24 hw24
    have q8 : wR w24 2 8 (eA w x n) = wR w 2 8 (eA w x n) := by rw [hw24]; simp [S_sR, S_sI, a1, a2]
    rw [q8]
    cases hLb : Lb with
    | nil =>
      have hnx : wR w 2 8 (eA w x n) = 0 := by rw [nx0, hLb]; rfl
      refine ⟨fun q => absurd hnx q, fun _ => ?_⟩
      rintro w30 rfl
      rw [hw24]
      refine fin _ rfl rfl rfl rfl rfl rfl (fun c k a => by simp [S_sR, S_sI]) (fun c k m1 m2 => ?_) (fun b => by simp [S_sR, S_sI, hA0]) (fun b => by simp [S_sR, S_sI, hLb]) (by simp [S_sR, S_sI, h12, h21]) (by simp [S_sR, S_sI, h12, h21, p8']) (by simp [S_sR, S_sI, h12, h21]) (by simp [S_sR, S_sI, h12, h21, hpv]) (fun z z1 z2 => ⟨fun e => (by rw [hA0] at e; cases e), fun _ => by simp [S_sR, S_sI, z1, z2]⟩) (fun z z1 z2 => ⟨fun e => (by rw [hLb] at e; cases e), fun _ => by simp [S_sR, S_sI, z1, z2]⟩)
      funext b
      simp only [S_sR, S_sI]
      grind
    | cons b v =>
      have hnx : wR w 2 8 (eA w x n) = eA w x b := by rw [nx0, hLb]; rfl
      have mb : b ∈ La ++ n :: Lb := by rw [hLb]; simp
      rw [hnx]
      refine ⟨fun _ => ⟨?_, ?_⟩, fun q => absurd q (km b mb).2⟩
      · rw [hw24]; exact (km b mb).1
      rintro w28 rfl
      rw [hw24]
      have hlast : (Lb.reverse.map (eA w x)).getLast? = some (eA w x b) := last_map (t := v) (by rw [List.reverse_reverse, hLb])
      have hb := nq b mb
      have hb0 : Lb ≠ [] := by rw [hLb]; simp
      refine fin _ rfl rfl rfl rfl rfl rfl (fun c k a => by simp [S_sR, S_sI]) (fun c k m1 m2 => ?_) (fun b => by simp [S_sR, S_sI, hA0]) (fun b => by simp [S_sR, S_sI, hb0]) (by simp [S_sR, S_sI, h12, h21]) (by simp [S_sR, S_sI, h12, h21, hnx]) (by simp [S_sR, S_sI, h12, h21, hb.2.symm]) (by simp [S_sR, S_sI, h12, h21, hpv, hb.1.symm]) (fun z z1 z2 => ⟨fun e => (by rw [hA0] at e; cases e), fun _ => by simp [S_sR, S_sI, z1, z2]⟩) (fun z z1 z2 => by
        rw [hlast]
        refine ⟨fun e => ?_, fun e => ?_⟩
        · have : eA w x b = z := by simpa using e
          simp [S_sR, S_sI, this]
        · have : z ≠ eA w x b := fun q => e (by rw [q])
          simp [S_sR, S_sI, z1, z2, this])
      funext b
      simp only [S_sR, S_sI]
      grind
  | cons p u =>
    have hpv : wR w 2 7 (eA w x n) = eA w x p := by rw [pv0, hLa]; rfl
    have mp : p ∈ La ++ n :: Lb := List.mem_append_left _ (List.mem_reverse.mp (by rw [hLa]; simp))
    have hpa := nq p mp
    have hA0 : La ≠ [] := fun q => by rw [q] at hLa; cases hLa
    have hlA : (La.map (eA w x)).getLast? = some (eA w x p) := last_map hLa
    have hpn : eA w x n ≠ eA w x p := fun e => by
      have := einj n p ⟨h1, h2⟩ (mm p mp) e
      exact hnA (by rw [this]; exact List.mem_reverse.mp (by rw [hLa]; simp))
    rw [hpv]
    refine ⟨fun _ => ⟨(km p mp).1, ?_⟩, fun q => absurd q (km p mp).2⟩
    intro w16 hw16
    have q8 : wR w16 2 8 (eA w x n) = wR w 2 8 (eA w x n) := by rw [hw16]; simp [S_sR, S_sI, a1, a2, hpn]
    rw [q8]
    cases hLb : Lb with
    | nil =>
      have hnx : wR w 2 8 (eA w x n) = 0 := by rw [nx0, hLb]; rfl
      refine ⟨fun q => absurd hnx q, fun _ => ⟨?_, ?_⟩⟩
      · rw [hw16]; exact hWk.1.1
      rintro w30 rfl
      rw [hw16]
      refine fin _ rfl rfl rfl rfl rfl rfl (fun c k a => by simp [S_sR, S_sI]) (fun c k m1 m2 => ?_) (fun b => by simp [S_sR, S_sI, hA0]) (fun b => by simp [S_sR, S_sI, hLb]) (by simp [S_sR, S_sI, h12, h21, hpa.1.symm]) (by simp [S_sR, S_sI, h12, h21, hpa.2.symm]) (by simp [S_sR, S_sI, h12, h21]) (by simp [S_sR, S_sI, h12, h21, hpv]) (fun z z1 z2 => by
        rw [hlA]
        refine ⟨fun e => ?_, fun e => ?_⟩
        · have : eA w x p = z := by simpa using e
          simp [S_sR, S_sI, this]
        · have : z ≠ eA w x p := fun q => e (by rw [q])
          simp [S_sR, S_sI, z1, z2, this]) (fun z z1 z2 => ⟨fun e => (by rw [hLb] at e; cases e), fun _ => by simp [S_sR, S_sI, z1, z2]⟩)
      funext b
      simp only [S_sR, S_sI]
      grind
    | cons b v =>
      have hnx : wR w 2 8 (eA w x n) = eA w x b := by rw [nx0, hLb]; rfl
      have mb : b ∈ La ++ n :: Lb := by rw [hLb]; simp
      rw [hnx]
      refine ⟨fun _ => ⟨?_, ?_⟩, fun q => absurd q (km b mb).2⟩
      · rw [hw16]; exact (km b mb).1
      rintro w28 rfl
      rw [hw16]
      have hlast : (Lb.reverse.map (eA w x)).getLast? = some (eA w x b) := last_map (t := v) (by rw [List.reverse_reverse, hLb])
      have hb := nq b mb
      have hb0 : Lb ≠ [] := by rw [hLb]; simp
      refine fin _ rfl rfl rfl rfl rfl rfl (fun c k a => by simp [S_sR, S_sI]) (fun c k m1 m2 => ?_) (fun b => by simp [S_sR, S_sI, hA0]) (fun b => by simp [S_sR, S_sI, hb0]) (by simp [S_sR, S_sI, h12, h21, hpa.1.symm]) (by simp [S_sR, S_sI, h12, h21, hpa.2.symm, hnx]) (by simp [S_sR, S_sI, h12, h21, hb.2.symm]) (by simp [S_sR, S_sI, h12, h21, hpv, hb.1.symm]) (fun z z1 z2 => by
        rw [hlA]
        refine ⟨fun e => ?_, fun e => ?_⟩
        · have : eA w x p = z := by simpa using e
          simp [S_sR, S_sI, this]
        · have : z ≠ eA w x p := fun q => e (by rw [q])
          simp [S_sR, S_sI, z1, z2, this]) (fun z z1 z2 => by
        rw [hlast]
        refine ⟨fun e => ?_, fun e => ?_⟩
        · have : eA w x b = z := by simpa using e
          simp [S_sR, S_sI, this]
        · have : z ≠ eA w x b := fun q => e (by rw [q])
          simp [S_sR, S_sI, z1, z2, this])
      funext b
      simp only [S_sR, S_sI]
      grind
