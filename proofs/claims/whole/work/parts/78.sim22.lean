/-! ===== enter: a whole put into its folio's chain ===== -/
theorem Lk_last {nx : Nat → Nat} : ∀ (A B : List Nat) (a z : Nat), Lk nx a (A ++ B) → A.getLast? = some z → nx z = B.headD 0 := by
  intro A
  induction A with
  | nil => intro B a z _ h; cases h
  | cons y t ih =>
    intro B a z h hz
    obtain ⟨h1, h2, h3⟩ := Lk_cons (t := t ++ B) h
    cases t with
    | nil =>
      have : y = z := by simpa using hz
      rw [← this]
      exact Lk_head (l := B) h3
    | cons b u => exact ih B _ z h3 hz
theorem last_map {g : Nat → Nat} {l t : List Nat} {y : Nat} (h : l.reverse = y :: t) : (l.map g).getLast? = some (g y) := by
  rw [← List.head?_reverse, ← List.map_reverse, h]; rfl
theorem c_insert {X : Cx} (A : Wd → Prop) {w : Wd} {x m f qa qw : Nat} {r r' : Rs} {ki : Int32} {s : Int64} {rt : Int32} {P : Int64} {d t : Int32} (hA : AT w x m r r') (hn : nE r' < 300) (hf : f < nF r')
    (b1 : wK w qw = 10) (b2 : wR w 9 2 qw = qa) (a1 : wK w qa = 1) (a2 : wI w 0 0 qa = d) (hq : ∀ k, 1 ≤ k → k ≤ nE r' → paR r' k = 0 → wA w x k ≠ qw)
    (hQ : ∀ w', wK w' = wK w → wL w' = wL w → wI w' = wI w → wJ w' = wJ w → xI w' = xI w → xJ w' = xJ w → xR w' = xR w →
      (∀ c k, ¬ (c = 9 ∧ (k = 11 ∨ k = 12)) → ¬ (c = 3 ∧ (k = 3 ∨ k = 4)) → wR w' c k = wR w c k) →
      Lk (wR w' 9 12) (wR w' 3 3 (fA w x f)) ((chF (enR r' (nE r' + 1) f ki s rt P d t) f).map (fun k => if k = nE r' + 1 then qw else wA w x k)) →
      Lk (wR w' 9 11) (wR w' 3 4 (fA w x f)) ((chF (enR r' (nE r' + 1) f ki s rt P d t) f).reverse.map (fun k => if k = nE r' + 1 then qw else wA w x k)) →
      (∀ g, g < nF r' → g ≠ f → Lk (wR w' 9 12) (wR w' 3 3 (fA w x g)) ((chF r' g).map (wA w x)) ∧ Lk (wR w' 9 11) (wR w' 3 4 (fA w x g)) ((chF r' g).reverse.map (wA w x))) → A w') :
    Ct X bX3_insert mX3_insert [vR (fA w x f), vR qw] w (qV A) := by
  obtain ⟨hM, hD, hC, ⟨hF, hE, hW, hP, hXX⟩, hI⟩ := hA
  have hFf := hF f hf
  have hF40 := hI.1.1.2
  have hz := hD.1
  have hq0 : qw ≠ 0 := K_nz hz b1
  have mem : ∀ g y, y ∈ chF r' g → 1 ≤ y ∧ y ≤ nE r' ∧ paR r' y = 0 ∧ foR r' y = g := fun g y hy => chN_mem _ hy
  have ninj : ∀ y z, (1 ≤ y ∧ y ≤ nE r' ∧ paR r' y = 0) → (1 ≤ z ∧ z ≤ nE r' ∧ paR r' z = 0) → wA w x y = wA w x z → y = z := fun y z a b h => wA_inj hI.1 hE hW a.1 a.2.1 a.2.2 b.1 b.2.1 b.2.2 h
  generalize hA0 : (chF r' f).takeWhile (fun y => decide (rI (enR r' (nE r' + 1) f ki s rt P d t) 13 y ≤ rI (enR r' (nE r' + 1) f ki s rt P d t) 13 (nE r' + 1))) = A0
  generalize hB0 : (chF r' f).dropWhile (fun y => decide (rI (enR r' (nE r' + 1) f ki s rt P d t) 13 y ≤ rI (enR r' (nE r' + 1) f ki s rt P d t) 13 (nE r' + 1))) = B0
  have hL : chF r' f = A0 ++ B0 := by rw [← hA0, ← hB0, List.takeWhile_append_dropWhile]
  have hch : chF (enR r' (nE r' + 1) f ki s rt P d t) f = A0 ++ (nE r' + 1) :: B0 := by
    rw [(en_ch hn (by omega)).2]
    unfold insW
    rw [hA0, hB0]
  have d13 : ∀ y, y ∈ chF r' f → rI (enR r' (nE r' + 1) f ki s rt P d t) 13 y = rI r' 13 y := fun y hy => by
    have := mem f y hy
    rw [en_13, if_neg (by omega)]
  have dN : rI (enR r' (nE r' + 1) f ki s rt P d t) 13 (nE r' + 1) = d := by rw [en_13, if_pos rfl]
  have srt : (chF r' f).Pairwise (dLe (enR r' (nE r' + 1) f ki s rt P d t)) := by
    have h0 := chN_srt r' f (nE r')
    refine List.Pairwise.imp_of_mem (R := dLe r') ?_ h0
    intro a b ha hb h
    unfold dLe at *
    rw [d13 a ha, d13 b hb]; exact h
  have hle : ∀ y ∈ A0, rI r' 13 y ≤ d := fun y hy => by
    have h1 := cut_le (r := enR r' (nE r' + 1) f ki s rt P d t) (e := nE r' + 1) (l := chF r' f) y (by rw [hA0]; exact hy)
    rw [dN, d13 y (by rw [hL]; exact List.mem_append_left _ hy)] at h1; exact h1
  have hlt : ∀ y ∈ B0, ¬ rI r' 13 y ≤ d := fun y hy => by
    have h1 := cut_lt (r := enR r' (nE r' + 1) f ki s rt P d t) (e := nE r' + 1) srt y (by rw [hB0]; exact hy)
    rw [dN, d13 y (by rw [hL]; exact List.mem_append_right _ hy)] at h1; exact h1
  have m2 : ∀ y, y ∈ A0 ++ B0 → 1 ≤ y ∧ y ≤ nE r' ∧ paR r' y = 0 ∧ foR r' y = f := fun y hy => mem f y (by rw [hL]; exact hy)
  have gnd : ((A0 ++ B0).map (wA w x)).Nodup := by
    have h0 : (A0 ++ B0).Nodup := by rw [← hL]; exact chN_nodup r' f _
    refine List.pairwise_map.mpr (List.Pairwise.imp_of_mem (R := fun a b => a ≠ b) ?_ h0)
    intro a b ha hb h e
    have p := m2 a ha
    have q := m2 b hb
    exact h (ninj a b ⟨p.1, p.2.1, p.2.2.1⟩ ⟨q.1, q.2.1, q.2.2.1⟩ e)
  have k1 := hFf.2.2.2.2.1
  have k2 := hFf.2.2.2.2.2
  rw [hL, List.map_append] at k1
  rw [hL, List.reverse_append, List.map_append] at k2
  rw [List.map_append] at gnd
  -- out of the pointers, the chains
  have fin : ∀ w', wK w' = wK w → wL w' = wL w → wI w' = wI w → wJ w' = wJ w → xI w' = xI w → xJ w' = xJ w → xR w' = xR w →
      (∀ c k, ¬ (c = 9 ∧ (k = 11 ∨ k = 12)) → ¬ (c = 3 ∧ (k = 3 ∨ k = 4)) → wR w' c k = wR w c k) →
      wR w' 3 3 (fA w x f) = (if A0 = [] then qw else wR w 3 3 (fA w x f)) → wR w' 3 4 (fA w x f) = (if B0 = [] then qw else wR w 3 4 (fA w x f)) →
      (∀ a, a ≠ fA w x f → wR w' 3 3 a = wR w 3 3 a ∧ wR w' 3 4 a = wR w 3 4 a) →
      wR w' 9 12 qw = (B0.map (wA w x)).headD 0 → wR w' 9 11 qw = (A0.reverse.map (wA w x)).headD 0 →
      (∀ z, z ≠ qw → ((A0.map (wA w x)).getLast? = some z → wR w' 9 12 z = qw) ∧ ((A0.map (wA w x)).getLast? ≠ some z → wR w' 9 12 z = wR w 9 12 z)) →
      (∀ z, z ≠ qw → ((B0.reverse.map (wA w x)).getLast? = some z → wR w' 9 11 z = qw) ∧ ((B0.reverse.map (wA w x)).getLast? ≠ some z → wR w' 9 11 z = wR w 9 11 z)) → A w' := by
    intro w' f1 f2 f3 f4 f5 f6 f7 f8 f9 f10 f11 f12 f13 f14 f15
    have gG : ∀ l : List Nat, (∀ y ∈ l, y ∈ A0 ++ B0) → l.map (fun k => if k = nE r' + 1 then qw else wA w x k) = l.map (wA w x) := fun l hl => map_c (fun y hy => by
      have := m2 y (hl y hy)
      simp only [if_neg (show ¬ y = nE r' + 1 by omega)])
    have nq : ∀ z, z ∈ A0.map (wA w x) ++ B0.map (wA w x) → z ≠ qw := fun z hz' => by
      rw [← List.map_append] at hz'
      obtain ⟨y, hy, rfl⟩ := List.mem_map.mp hz'
      have := m2 y hy
      exact hq y this.1 this.2.1 this.2.2.1
    refine hQ w' f1 f2 f3 f4 f5 f6 f7 f8 ?_ ?_ (fun g hg hgf => ?_)
    · rw [hch, List.map_append, List.map_cons, gG A0 (fun y hy => List.mem_append_left _ hy), gG B0 (fun y hy => List.mem_append_right _ hy), if_pos rfl, f9]
      have := Lk_ins (nx' := wR w' 9 12) hq0 (A0.map (wA w x)) (B0.map (wA w x)) _ gnd k1 f12 (fun z hz' => f14 z (nq z hz'))
      have hAe : ∀ c : Nat, (if A0.map (wA w x) = [] then qw else c) = (if A0 = [] then qw else c) := fun c => by cases A0 <;> simp
      rw [hAe] at this
      exact this
    · rw [hch, List.reverse_append, List.reverse_cons, List.append_assoc, List.map_append, List.map_append, gG A0.reverse (fun y hy => List.mem_append_left _ (List.mem_reverse.mp hy)), gG B0.reverse (fun y hy => List.mem_append_right _ (List.mem_reverse.mp hy)), f10]
      have hnd : (B0.reverse.map (wA w x) ++ A0.reverse.map (wA w x)).Nodup := by
        rw [List.map_reverse, List.map_reverse, ← List.reverse_append]
        exact List.pairwise_reverse.mpr (gnd.imp (fun h => h.symm))
      have := Lk_ins (nx' := wR w' 9 11) hq0 (B0.reverse.map (wA w x)) (A0.reverse.map (wA w x)) _ hnd k2 f13 (fun z hz' => f15 z (nq z (by
        rw [List.map_reverse, List.map_reverse, ← List.reverse_append] at hz'
        exact List.mem_reverse.mp hz')))
      have hBe : ∀ c : Nat, (if B0.reverse.map (wA w x) = [] then qw else c) = (if B0 = [] then qw else c) := fun c => by cases B0 <;> simp
      rw [hBe] at this
      simpa using this
    · have hd : ∀ y ∈ chF r' g, ∀ u ∈ A0 ++ B0, wA w x y ≠ wA w x u := fun y hy u hu e => by
        have p := mem g y hy
        have q := m2 u hu
        have := ninj y u ⟨p.1, p.2.1, p.2.2.1⟩ ⟨q.1, q.2.1, q.2.2.1⟩ e
        subst this
        exact hgf (p.2.2.2.symm.trans q.2.2.2)
      have hne : fA w x g ≠ fA w x f := fun e => hgf (fA_inj hI.1 hF hg hf e)
      have hgz : ∀ z ∈ (chF r' g).map (wA w x), z ≠ qw ∧ z ∉ A0.map (wA w x) ∧ z ∉ B0.map (wA w x) := fun z hz' => by
        obtain ⟨y, hy, rfl⟩ := List.mem_map.mp hz'
        have p := mem g y hy
        refine ⟨hq y p.1 p.2.1 p.2.2.1, fun h => ?_, fun h => ?_⟩
        · obtain ⟨u, hu, e⟩ := List.mem_map.mp h
          exact hd y hy u (List.mem_append_left _ hu) e.symm
        · obtain ⟨u, hu, e⟩ := List.mem_map.mp h
          exact hd y hy u (List.mem_append_right _ hu) e.symm
      rw [(f11 _ hne).1, (f11 _ hne).2]
      refine ⟨Lk_congr _ _ (fun z hz' => (f14 z (hgz z hz').1).2 (fun e => (hgz z hz').2.1 (List.mem_of_getLast? e))) (hF g hg).2.2.2.2.1, Lk_congr _ _ (fun z hz' => ?_) (hF g hg).2.2.2.2.2⟩
      have hz2 : z ∈ (chF r' g).map (wA w x) := by rw [List.map_reverse] at hz'; exact List.mem_reverse.mp hz'
      refine (f15 z (hgz z hz2).1).2 (fun e => (hgz z hz2).2.2 ?_)
      have := List.mem_of_getLast? e
      rw [List.map_reverse] at this
      exact List.mem_reverse.mp this
  have ny : ∀ y, y ∈ A0 ++ B0 → wA w x y ≠ qw ∧ wK w (wA w x y) = 10 := fun y hy => by
    have p := m2 y hy
    exact ⟨hq y p.1 p.2.1 p.2.2.1, (hW y p.1 p.2.1 p.2.2.1).1.1⟩
  refine oX3_insert X _ _ _ w ⟨hFf.1, ?_⟩
  refine c_insLoop A w (fA w x f) qw (wA w x) (rI r' 13) d hFf.1 b1 (by rw [b2]; exact a1) (by rw [b2]; exact a2) B0.reverse A0.reverse _ (fun y hy => ?_) (fun y hy => hlt y (List.mem_reverse.mp hy)) (fun y hy => hle y (List.mem_reverse.mp hy)) (by rw [List.map_append]; exact k2) (fun hA => ?_) (fun y u hA => ?_)
  · have hy' : y ∈ A0 ++ B0 := by
      rcases List.mem_append.mp hy with z | z
      · exact List.mem_append_right _ (List.mem_reverse.mp z)
      · exact List.mem_append_left _ (List.mem_reverse.mp z)
    have p := m2 y hy'
    have h := hW y p.1 p.2.1 p.2.2.1
    have ha := h.2.1.2.1.2 h.2.1.1
    exact ⟨h.1.1, ha.1, ha.2.1⟩
  · have hA' : A0 = [] := List.reverse_eq_nil_iff.mp hA
    subst hA'
    have h33 : wR w 3 3 (fA w x f) = (B0.map (wA w x)).headD 0 := Lk_head (l := B0.map (wA w x)) k1
    refine tX3_insert_49 X _ _ _ _ _ w ⟨b1, ?_⟩
    rintro w2 rfl w4 rfl
    refine ⟨fun q => absurd rfl q, fun _ => ⟨hFf.1, ?_⟩⟩
    rintro w14 rfl
    cases B0 with
    | nil =>
      rw [h33]
      refine ⟨fun q => absurd rfl q, fun _ => ?_⟩
      rintro w19 rfl
      refine fin _ rfl rfl rfl rfl rfl rfl rfl (fun c k n1 n2 => ?_) (by simp [S_sR]) (by simp [S_sR]) (fun a ha => ⟨by simp [S_sR, ha], by simp [S_sR, ha]⟩) (by simp [S_sR]) (by simp [S_sR]) (fun z hz' => ⟨fun e => by simp at e, fun _ => by simp [S_sR, hz']⟩) (fun z hz' => ⟨fun e => by simp at e, fun _ => by simp [S_sR, hz']⟩)
      funext a
      simp only [S_sR]
      rw [if_neg (by omega), if_neg (by omega), if_neg (by omega), if_neg (by omega)]
    | cons b u =>
      have nb := ny b (by simp)
      rw [h33]
      refine ⟨fun _ => ⟨nb.2, ?_⟩, fun q => absurd q (K_nz hz nb.2)⟩
      rintro w17 rfl
      have hlast : ((b :: u).reverse.map (wA w x)).getLast? = some (wA w x b) := last_map (t := u) (List.reverse_reverse _)
      refine fin _ rfl rfl rfl rfl rfl rfl rfl (fun c k n1 n2 => ?_) (by simp [S_sR]) (by simp [S_sR]) (fun a ha => ⟨by simp [S_sR, ha], by simp [S_sR]⟩) (by simp [S_sR]) (by simp [S_sR, nb.1.symm]) (fun z hz' => ⟨fun e => by simp at e, fun _ => by simp [S_sR, hz']⟩) (fun z hz' => by
        rw [hlast]
        refine ⟨fun e => ?_, fun e => ?_⟩
        · have : wA w x b = z := by simpa using e
          simp [S_sR, this]
        · have : z ≠ wA w x b := fun q => e (by rw [q])
          simp [S_sR, hz', this])
      funext a
      simp only [S_sR]
      rw [if_neg (by omega), if_neg (by omega), if_neg (by omega), if_neg (by omega)]
  · have hyA : y ∈ A0 := List.mem_reverse.mp (by rw [hA]; exact List.mem_cons_self)
    have nyy := ny y (List.mem_append_left _ hyA)
    have hAne : A0 ≠ [] := fun e => by rw [e] at hyA; cases hyA
    have hlA : (A0.map (wA w x)).getLast? = some (wA w x y) := last_map hA
    have h912 : wR w 9 12 (wA w x y) = (B0.map (wA w x)).headD 0 := Lk_last _ _ _ _ k1 hlA
    have hhd : (A0.reverse.map (wA w x)).headD 0 = wA w x y := by rw [hA]; rfl
    refine tX3_insert_49 X _ _ _ _ _ w ⟨b1, ?_⟩
    rintro w2 rfl w4 rfl
    refine ⟨fun _ => ⟨nyy.2, ?_⟩, fun q => absurd q (K_nz hz nyy.2)⟩
    rintro w7 rfl
    cases B0 with
    | nil =>
      rw [h912]
      refine ⟨fun q => absurd rfl q, fun _ => ⟨hFf.1, ?_⟩⟩
      rintro w12 rfl
      refine fin _ rfl rfl rfl rfl rfl rfl rfl (fun c k n1 n2 => ?_) (by simp [S_sR, hAne]) (by simp [S_sR]) (fun a ha => ⟨by simp [S_sR], by simp [S_sR, ha]⟩) (by simp [S_sR, nyy.1.symm]) (by rw [hhd]; simp [S_sR]) (fun z hz' => by
        rw [hlA]
        refine ⟨fun e => ?_, fun e => ?_⟩
        · have : wA w x y = z := by simpa using e
          simp [S_sR, this]
        · have : z ≠ wA w x y := fun q => e (by rw [q])
          simp [S_sR, hz', this]) (fun z hz' => ⟨fun e => by simp at e, fun _ => by simp [S_sR, hz']⟩)
      funext a
      simp only [S_sR]
      rw [if_neg (by omega), if_neg (by omega), if_neg (by omega), if_neg (by omega)]
    | cons b u =>
      have nb := ny b (by simp)
      rw [h912]
      refine ⟨fun _ => ⟨nb.2, ?_⟩, fun q => absurd q (K_nz hz nb.2)⟩
      rintro w10 rfl
      have hlast : ((b :: u).reverse.map (wA w x)).getLast? = some (wA w x b) := last_map (t := u) (List.reverse_reverse _)
      refine fin _ rfl rfl rfl rfl rfl rfl rfl (fun c k n1 n2 => ?_) (by simp [S_sR, hAne]) (by simp [S_sR]) (fun a ha => ⟨by simp [S_sR], by simp [S_sR]⟩) (by simp [S_sR, nyy.1.symm]) (by rw [hhd]; simp [S_sR, nb.1.symm]) (fun z hz' => by
        rw [hlA]
        refine ⟨fun e => ?_, fun e => ?_⟩
        · have : wA w x y = z := by simpa using e
          simp [S_sR, this]
        · have : z ≠ wA w x y := fun q => e (by rw [q])
          simp [S_sR, hz', this]) (fun z hz' => by
        rw [hlast]
        refine ⟨fun e => ?_, fun e => ?_⟩
        · have : wA w x b = z := by simpa using e
          simp [S_sR, this]
        · have : z ≠ wA w x b := fun q => e (by rw [q])
          simp [S_sR, hz', this])
      funext a
      simp only [S_sR]
      rw [if_neg (by omega), if_neg (by omega), if_neg (by omega), if_neg (by omega)]
