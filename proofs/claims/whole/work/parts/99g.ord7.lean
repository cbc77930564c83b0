/-! ===== the order: ranks, posts, the class's order whole ===== -/
def plQ (r : Rs) (dy as : Int32) (p : Nat) (ah : Bool) (y : Nat) : Bool := plB r dy as p y && (fstB r dy as y == ah)
section O9
variable {X : Cx} {w0 : Wd} {x m : Nat} {r0 r : Rs} {pA : Nat → Nat} {dy as : Int32} {p f rq mo : Nat}
theorem own_ch (hI : RI r) {y : Nat} (hy : y ∈ chF r f) (hp : plB r dy as p y = true) : own r y ∈ chF r f := (OLs_ch hI (OLs_mem.mpr ⟨y, hy, hp, rfl⟩)).1
theorem c_rankLoop (hA : AT w0 x m r0 r) (hq : RQ w0 x dy as p f rq mo) (ah : Bool) (A : Wd → Prop) : ∀ (l : List Nat), (∀ y ∈ l, y ∈ chF r f) → ∀ (a : Nat) (w : Wd) (O : List Nat), Sq rq w0 w → LiF r dy as p w0 x (chF r f) w → RkS w0 x (chF r f) w O (fun _ => 0) → wI w 6 4 rq = nI O.length → O.Nodup → (∀ o ∈ O, 1 ≤ o ∧ o ≤ nE r) → Lk (wR w0 9 12) a (l.map (wA w0 x)) →
    (∀ w', Sq rq w0 w' → LiF r dy as p w0 x (chF r f) w' → RkS w0 x (chF r f) w' ((l.filter (plQ r dy as p ah)).foldl (addO r) O) (fun _ => 0) → wI w' 6 4 rq = nI ((l.filter (plQ r dy as p ah)).foldl (addO r) O).length → A w') → jX6_rankPlaces_8 X A rq (bI ah) a w := by
  have hI := hA.2.2.2.2
  have hN := hI.1.2.1.2
  intro l
  induction l with
  | nil =>
    intro _ a w O hs hL hR h64 nd hin hk h
    have : a = 0 := hk
    subst this
    exact tX6_rankPlaces_8 X _ _ _ _ w ⟨fun _ => h w hs hL hR h64, fun z => absurd rfl z⟩
  | cons y l ih =>
    intro hl a w O hs hL hR h64 nd hin hk h
    obtain ⟨rfl, hn, hk⟩ := Lk_cons hk
    have hy := hl y List.mem_cons_self
    obtain ⟨k10, k98, k0, y1, y2, y3, y4⟩ := ch_w hA hy
    have hl' : ∀ z ∈ l, z ∈ chF r f := fun z hz => hl z (List.mem_cons_of_mem _ hz)
    have hOl := nodup_len O (nE r) nd hin
    have hk1 : wK w (wA w0 x y) = 10 := by rw [hs.1.1]; exact k10
    refine tX6_rankPlaces_8 X _ _ _ _ w ⟨fun z => absurd z hn, fun _ => ⟨by rw [hs.1.1]; exact hq.1.1, (c_placedBy hA hq hs hL hy ah).R ?_⟩⟩
    rintro v w1 ⟨rfl, rfl⟩
    by_cases hpl : plB r dy as p y = true ∧ fstB r dy as y = ah
    · rw [if_pos hpl]
      have hf : (y :: l).filter (plQ r dy as p ah) = y :: l.filter (plQ r dy as p ah) := by
        rw [List.filter_cons, if_pos]
        unfold plQ; rw [hpl.1, hpl.2]; simp
      rw [hf, List.foldl_cons] at h
      have hoc := own_ch hI hy hpl.1
      obtain ⟨o10, -, o0, o1, o2, -, -⟩ := ch_w hA hoc
      refine ⟨fun z => absurd z o0, fun _ => ⟨by rw [hs.1.1]; exact o10, fun z => ⟨hk1, ?_⟩, fun z => ⟨by rw [hs.1.1]; exact hq.1.1, ?_⟩⟩⟩
      · rw [(hR _ hoc).1, idx_m1 (by omega)] at z
        have hmem : own r y ∈ O := Classical.byContradiction z
        rw [hs.1.2.1]
        refine ih hl' _ w1 O hs hL hR h64 nd hin hk ?_
        rw [addO_pos hmem] at h
        exact h
      · rw [(hR _ hoc).1, idx_m1 (by omega)] at z
        rw [addO_neg z] at h
        intro w11 hw11 w13 hw13
        have h64' : wI w11 6 4 rq = nI O.length := by rw [hw11]; simp [S_sI]; exact h64
        rw [h64', nI_1] at hw13
        rw [h64] at hw11
        have hs11 : Sq rq w0 w11 := by rw [hw11]; exact hs.s9 14 _ _ (by omega)
        have hs13 : Sq rq w0 w13 := by rw [hw13]; exact hs11.s6 _
        have up : ∀ k b, wI w13 9 k b = if k = 14 ∧ b = wA w0 x (own r y) then nI O.length else wI w1 9 k b := fun k b => by
          rw [hw13, hw11]; simp [S_sI]
        rw [hs13.1.2.1]
        refine ⟨by rw [hs13.1.1]; exact k10, ih hl' _ w13 _ hs13 (fun z hz => by rw [up, if_neg (by omega)]; exact hL z hz) (fun z hz => ⟨?_, ?_⟩) (by rw [hw13]; simp [S_sI]) ?_ ?_ hk h⟩
        · rw [up]
          unfold idx
          rw [idxR_add]
          by_cases hzo : z = own r y
          · have e1 : z ∉ O := by rw [hzo]; exact fun q => absurd q (by assumption)
            rw [if_pos ⟨rfl, by rw [hzo]⟩, if_neg e1, if_pos hzo.symm, Nat.zero_add]
          · rw [if_neg (fun q => hzo (ch_inj hA hz hoc q.2))]
            by_cases hzm : z ∈ O
            · rw [if_pos hzm]; exact (hR z hz).1
            · rw [if_neg hzm, if_neg (fun q => hzo q.symm)]
              have := (hR z hz).1
              rw [this]; exact (idx_m1 (by omega)).mpr hzm
        · rw [up, if_neg (by omega)]; exact (hR z hz).2
        · rw [List.nodup_append]
          exact ⟨nd, by simp, fun a ha b hb e => z (by simp at hb; rw [← hb, ← e]; exact ha)⟩
        · intro o ho
          rcases List.mem_append.mp ho with q | q
          · exact hin o q
          · rw [List.mem_singleton.mp q]; exact ⟨o1, o2⟩
    · rw [if_neg hpl]
      have hf : (y :: l).filter (plQ r dy as p ah) = l.filter (plQ r dy as p ah) := by
        rw [List.filter_cons, if_neg]
        unfold plQ
        intro q
        simp at q
        exact hpl q
      rw [hf] at h
      refine ⟨fun _ => ⟨hk1, ?_⟩, fun z => absurd rfl z⟩
      rw [hs.1.2.1]
      exact ih hl' _ w1 O hs hL hR h64 nd hin hk h
theorem c_countsOn (hA : AT w0 x m r0 r) (hP : PF w0 x r pA) (hp : p < 60) (hf : f < nF r) (hsz : p < ix r 0 f) {w : Wd} (hs : Sc w0 w) (h5 : wK w0 mo = 5) (hd : wI w0 4 0 mo = dy) (ha : wI w0 4 1 mo = as) {q : Nat} (hq : q ∈ pos r) : Ct X bX5_countsOn mX5_countsOn [vR (pA q), vR (fA w0 x f), vI (nI p), vR mo] w (qI fun v w' => v = bI (cntP r dy as p f q) ∧ w' = w) := by
  have hI := hA.2.2.2.2
  have hz := hA.2.1.1
  have hzw : wK w 0 = 0 := by rw [hs.1]; exact hz
  have hpp := hP.2 q hq
  have hq' := pos_mem.mp hq
  have hpq := hI.2.2.2.2.1 q hq'.1 hq'.2
  have hzz := hI.2.2.2.2.2.2.2.2.2.2 q hq'.1 hq'.2
  obtain ⟨wa, wb, e1, e2, k1, k2⟩ := post_w hA hq
  have ra := hA.2.2.2.1.2.2.1 _ wa.1 wa.2.1 wa.2.2
  have hEa := hI.2.2.2.1 _ hpq.2.1 hpq.2.2.1
  have hfoa : foR r (gA r q) = foR r (ix r 31 q) := hEa.2.2.2.1.2.1.symm
  have hfl : foR r (ix r 31 q) < nF r := hEa.2.2.2.1.1
  have h5' : wK w mo = 5 := by rw [hs.1]; exact h5
  have e0 : ∀ {a d k}, Ac w0 a d k → Ac w a d k := fun {a d k} hac => by unfold Ac at *; rw [hs.1, hs.2.2.2.2.2.2.1 0 0 (by omega) (by decide), hs.2.2.2.2.2.2.1 0 1 (by omega) (by decide)]; exact hac
  have act : ∀ {a d k}, Ac w0 a d k → actB w a mo = cntB dy as d k ∧ (a = 0 ∨ wK w a = 1) := fun {a d k} hac => by
    have h := e0 hac
    refine ⟨by rw [h.B (fun k => K_nz hzw (h.2 k).1), hs.2.2.2.2.2.2.1 4 0 (by omega) (by decide), hs.2.2.2.2.2.2.1 4 1 (by omega) (by decide), hd, ha], ?_⟩
    by_cases k' : k = -1
    · exact Or.inl (h.1 k')
    · exact Or.inr (h.2 k').1
  have A4 := act hpp.2.2.1
  have A5 := act hpp.2.2.2
  refine oX5_countsOn X _ _ _ _ _ w ?_
  rw [hs.1, hs.2.1, hpp.1.2.2.1, e1, ra.1.2.1, hfoa]
  refine ⟨hpp.1.1, k1, ra.1.1, fun z => ⟨?_, rfl⟩, fun z => ?_⟩
  · have : foR r (ix r 31 q) ≠ f := fun e => z (by rw [e])
    simp [cntP, this, bI]
  have hff : foR r (ix r 31 q) = f := fA_inj hI.1 hA.2.2.2.1.1 hfl hf z
  refine (c_happened w _ mo A4.2 h5').I ?_
  rintro v w1 ⟨rfl, rfl⟩
  rw [A4.1, hs.1, hs.2.1]
  refine ⟨fun y => ⟨by rw [bI_0] at y; simp [cntP, y, bI], rfl⟩, fun y1 => ⟨hpp.1.1, (c_happened w1 _ mo A5.2 h5').I ?_⟩⟩
  rw [bI_n] at y1
  rintro v w2 ⟨rfl, rfl⟩
  rw [A5.1, hs.1, hs.2.1, hpp.1.2.2.1]
  refine ⟨fun y => ⟨by rw [bI_n] at y; simp [cntP, y, bI], rfl⟩, fun y2 => ⟨hpp.1.1, k1, (c_liesS hA hp hs h5 hd ha hpq.2.1 hpq.2.2.1 (by rw [hff]; exact hsz)).I ?_⟩⟩
  rw [bI_0] at y2
  rintro v w3 ⟨rfl, rfl⟩
  rw [hs.1, hs.2.1, hpp.1.2.2.2.1]
  refine ⟨fun y => ⟨by rw [bI_0] at y; simp [cntP, y, bI], rfl⟩, fun y3 => ⟨hpp.1.1, k2, (c_liesS hA hp hs h5 hd ha hpq.2.2.2.2.1 hpq.2.2.2.2.2 (by rw [← hzz.1, hff]; exact hsz)).I ?_⟩⟩
  rw [bI_n] at y3
  rintro v w4 ⟨rfl, rfl⟩
  refine ⟨fun y => ⟨by rw [bI_0] at y; simp [cntP, y, bI], rfl⟩, fun y4 => ⟨by rw [bI_n] at y4; simp [cntP, hff, y1, y2, y3, y4, bI], rfl⟩⟩
theorem c_ordPosts (hA : AT w0 x m r0 r) (hP : PF w0 x r pA) (hp : p < 60) (hf : f < nF r) (hsz : p < ix r 0 f) (hq : RQ w0 x dy as p f rq mo) (A : Wd → Prop) : ∀ (l : List Nat), (∀ q ∈ l, q ∈ pos r) → ∀ (a : Nat) (w : Wd) (s : List Nat × (Nat → Int32)), Sq rq w0 w → LiF r dy as p w0 x (chF r f) w → RkS w0 x (chF r f) w s.1 s.2 → wI w 6 4 rq = nI s.1.length → OkO r dy as p f s.1 → Lk (wR w0 5 6) a (l.map pA) →
    (∀ w', Sq rq w0 w' → LiF r dy as p w0 x (chF r f) w' → RkS w0 x (chF r f) w' (l.foldl (pstp r dy as p f) s).1 (l.foldl (pstp r dy as p f) s).2 → wI w' 6 4 rq = nI (l.foldl (pstp r dy as p f) s).1.length → A w') → jX6_arrange_79 X A rq a w := by
  have hI := hA.2.2.2.2
  intro l
  induction l with
  | nil =>
    intro _ a w s hs hL hR h64 hOk hk h
    have : a = 0 := hk
    subst this
    exact tX6_arrange_79 X _ _ _ w ⟨fun _ => h w hs hL hR h64, fun z => absurd rfl z⟩
  | cons q l ih =>
    intro hl a w s hs hL hR h64 hOk hk h
    obtain ⟨rfl, hn, hk⟩ := Lk_cons hk
    have hm := hl q List.mem_cons_self
    have hpp := hP.2 q hm
    obtain ⟨wa, wb, e1, e2, k1, k2⟩ := post_w hA hm
    have hl' : ∀ z ∈ l, z ∈ pos r := fun z hz => hl z (List.mem_cons_of_mem _ hz)
    rw [List.foldl_cons] at h
    have kq : wK w (pA q) = 6 := by rw [hs.1.1]; exact hpp.1.1
    refine tX6_arrange_79 X _ _ _ w ⟨fun z => absurd z hn, fun _ => ?_⟩
    have hc := c_countsOn (X := X) hA hP hp hf hsz hs.1 hq.2.1 hq.2.2.1 hq.2.2.2 hm
    rw [hs.1.1, hs.1.2.1, hs.2, hq.1.2.1, hq.1.2.2.1, hq.1.2.2.2.1]
    refine ⟨hq.1.1, hpp.1.1, hc.I ?_⟩
    rintro v w1 ⟨rfl, rfl⟩
    rw [hs.1.1, hs.1.2.1]
    refine ⟨fun z => ⟨hpp.1.1, ?_⟩, fun z => ⟨hpp.1.1, ?_⟩⟩
    · rw [bI_0] at z
      have e : pstp r dy as p f s q = s := by unfold pstp; rw [if_neg (fun y => by rw [z] at y; exact absurd y.1 (by decide))]
      rw [e] at h
      exact ih hl' _ w1 s hs hL hR h64 hOk hk h
    · rw [bI_n] at z
      have hmem := cntP_in hI hm z
      have ca := (OLs_ch hI hmem.1).1
      have cb := (OLs_ch hI hmem.2).1
      refine oX5_changePlaces X _ _ w1 ?_
      rw [hs.1.1, hs.1.2.1, hpp.1.2.2.1, hpp.1.2.2.2.1, e1, e2, (hR _ ca).1, (hR _ cb).1]
      refine ⟨hpp.1.1, k1, k2, (ch_w hA ca).1, (ch_w hA cb).1, fun y => ?_, fun y => ?_⟩
      · have e : pstp r dy as p f s q = (s.1.map (swp (gA r q) (gB r q)), fun e => if e = gA r q ∨ e = gB r q then s.2 e + 1 else s.2 e) := by unfold pstp; rw [if_pos ⟨z, y⟩]
        have hab : gA r q ≠ gB r q := fun e => by rw [e, Int32.lt_iff_toInt_lt] at y; omega
        have hwab : wA w0 x (gA r q) ≠ wA w0 x (gB r q) := fun e => hab (ch_inj hA ca cb e)
        intro w7 hw7 w9 hw9 w11 hw11 w13 hw13
        have m9 : wI w9 9 15 (wA w0 x (gA r q)) = s.2 (gA r q) := by rw [hw9, hw7]; simp [S_sI]; exact (hR _ ca).2
        rw [m9] at hw11
        have m11 : wI w11 9 15 (wA w0 x (gB r q)) = s.2 (gB r q) := by rw [hw11, hw9, hw7]; simp [S_sI, hwab.symm]; exact (hR _ cb).2
        rw [m11] at hw13
        have hs13 : Sq rq w0 w13 := by rw [hw13, hw11, hw9, hw7]; exact (((hs.s9 14 _ _ (by omega)).s9 14 _ _ (by omega)).s9 15 _ _ (by omega)).s9 15 _ _ (by omega)
        have u14 : ∀ b, wI w13 9 14 b = if b = wA w0 x (gB r q) then idx s.1 (gA r q) else if b = wA w0 x (gA r q) then idx s.1 (gB r q) else wI w1 9 14 b := fun b => by
          rw [hw13, hw11, hw9, hw7]; simp [S_sI]
        have u15 : ∀ b, wI w13 9 15 b = if b = wA w0 x (gB r q) then s.2 (gB r q) + 1 else if b = wA w0 x (gA r q) then s.2 (gA r q) + 1 else wI w1 9 15 b := fun b => by
          rw [hw13, hw11, hw9, hw7]; simp [S_sI]
        have u13 : ∀ b, wI w13 9 13 b = wI w1 9 13 b := fun b => by rw [hw13, hw11, hw9, hw7]; simp [S_sI]
        have u64 : wI w13 6 4 rq = wI w1 6 4 rq := by rw [hw13, hw11, hw9, hw7]; simp [S_sI]
        rw [hs13.1.1, hs13.1.2.1]
        rw [e] at h
        refine ⟨hpp.1.1, ih hl' _ w13 _ hs13 (fun y hy => by rw [u13]; exact hL y hy) (fun y hy => ⟨?_, ?_⟩) (by rw [u64, List.length_map]; exact h64) (hOk.swp ((hOk.2 _).mpr hmem.1) ((hOk.2 _).mpr hmem.2)) hk h⟩
        · rw [u14]
          unfold idx
          rw [idxR_swp]
          unfold swp
          by_cases ya : y = gA r q
          · have n : wA w0 x y ≠ wA w0 x (gB r q) := by rw [ya]; exact hwab
            rw [if_neg n, if_pos (by rw [ya]), if_pos ya]
          · have n1 : wA w0 x y ≠ wA w0 x (gA r q) := fun e => ya (ch_inj hA hy ca e)
            by_cases yb : y = gB r q
            · rw [if_pos (by rw [yb]), if_neg ya, if_pos yb]
            · have n2 : wA w0 x y ≠ wA w0 x (gB r q) := fun e => yb (ch_inj hA hy cb e)
              rw [if_neg n2, if_neg n1, if_neg ya, if_neg yb]; exact (hR y hy).1
        · rw [u15]
          by_cases ya : y = gA r q
          · have n : wA w0 x y ≠ wA w0 x (gB r q) := by rw [ya]; exact hwab
            rw [if_neg n, if_pos (by rw [ya])]
            show _ = if y = gA r q ∨ y = gB r q then s.2 y + 1 else s.2 y
            rw [if_pos (Or.inl ya), ya]
          · have n1 : wA w0 x y ≠ wA w0 x (gA r q) := fun e => ya (ch_inj hA hy ca e)
            by_cases yb : y = gB r q
            · rw [if_pos (by rw [yb])]
              show _ = if y = gA r q ∨ y = gB r q then s.2 y + 1 else s.2 y
              rw [if_pos (Or.inr yb), yb]
            · have n2 : wA w0 x y ≠ wA w0 x (gB r q) := fun e => yb (ch_inj hA hy cb e)
              rw [if_neg n2, if_neg n1]
              show _ = if y = gA r q ∨ y = gB r q then s.2 y + 1 else s.2 y
              rw [if_neg (fun e => e.elim ya yb)]; exact (hR y hy).2
      · have e : pstp r dy as p f s q = s := by unfold pstp; rw [if_neg (fun z => y z.2)]
        rw [e] at h
        exact ⟨hpp.1.1, ih hl' _ w1 s hs hL hR h64 hOk hk h⟩
theorem plQ_t : ∀ l : List Nat, l.filter (plQ r dy as p true) = l.filter (fun w => plB r dy as p w && fstB r dy as w) := fun l => by
  refine List.filter_congr (fun y _ => ?_)
  unfold plQ; cases fstB r dy as y <;> rfl
theorem plQ_f : ∀ l : List Nat, l.filter (plQ r dy as p false) = l.filter (fun w => plB r dy as p w && !(fstB r dy as w)) := fun l => by
  refine List.filter_congr (fun y _ => ?_)
  unfold plQ; cases fstB r dy as y <;> rfl
theorem c_arrange (hA : AT w0 x m r0 r) (hP : PF w0 x r pA) (hp : p < 60) (hf : f < nF r) (hsz : p < ix r 0 f) (hq : RQ w0 x dy as p f rq mo) (h64 : wI w0 6 4 rq = 0) (A : Wd → Prop) (h : ∀ w', Sq rq w0 w' → LiF r dy as p w0 x (chF r f) w' → RkS w0 x (chF r f) w' (ordS r dy as p f).1 (ordS r dy as p f).2 → wI w' 6 4 rq = nI (ordS r dy as p f).1.length → A w') : Ct X bX6_arrange mX6_arrange [vR rq] w0 (qV A) := by
  have hI := hA.2.2.2.2
  have hF := hA.2.2.2.1.1 f hf
  have hch := hF.2.2.2.2.1
  refine oX6_arrange X _ _ w0 ?_
  rw [hq.1.2.1]
  refine ⟨hq.1.1, hF.1, c_arrLoop hA hp hsz hq A (chF r f) (fun _ z => z) (chN_nodup r f _) _ w0 ⟨Sc.rf _, rfl⟩ hch (fun w1 s1 c1 c2 c3 => ?_)⟩
  refine tX6_arrange_8 X _ _ _ w1 ⟨fun _ => ?_, fun z => absurd rfl z⟩
  rw [s1.1.1]
  refine ⟨hq.1.1, oX6_rankPlaces X _ _ 1 w1 ?_⟩
  rw [s1.1.1, s1.1.2.1, hq.1.2.1]
  refine ⟨hq.1.1, hF.1, c_rankLoop hA hq true _ (chF r f) (fun _ z => z) _ w1 [] s1 (fun y hy => (c1 y hy).1) (fun y hy => ⟨(c1 y hy).2.1, (c1 y hy).2.2⟩) (by rw [c3, h64]; rfl) List.nodup_nil (fun o ho => by cases ho) hch (fun w2 s2 l2 k2 z2 => ?_)⟩
  obtain ⟨nd, hm⟩ := addO_mem (r := r) ((chF r f).filter (plQ r dy as p true)) [] List.nodup_nil
  have hin : ∀ o ∈ ((chF r f).filter (plQ r dy as p true)).foldl (addO r) [], 1 ≤ o ∧ o ≤ nE r := fun o ho => by
    rcases (hm o).mp ho with z | ⟨v, z1, z2⟩
    · cases z
    · have hv := List.mem_filter.mp z1
      have hpv : plB r dy as p v = true := by have := hv.2; unfold plQ at this; simp at this; exact this.1
      have := chF_mem.mp (own_ch hI hv.1 hpv)
      rw [z2] at this; exact ⟨this.1, this.2.1⟩
  rw [s2.1.1]
  refine ⟨hq.1.1, oX6_rankPlaces X _ _ 0 w2 ?_⟩
  rw [s2.1.1, s2.1.2.1, hq.1.2.1]
  refine ⟨hq.1.1, hF.1, c_rankLoop hA hq false _ (chF r f) (fun _ z => z) _ w2 _ s2 l2 k2 z2 nd hin hch (fun w3 s3 l3 k3 z3 => ?_)⟩
  rw [s3.1.1, s3.1.2.1, hq.1.2.2.2.2]
  refine ⟨hq.1.1, c_ordPosts hA hP hp hf hsz hq A (pos r) (fun _ z => z) _ w3 (OLs r dy as p f, fun _ => 0) s3 l3 ?_ ?_ OLs_ok hP.1 (fun w4 s4 l4 k4 z4 => h w4 s4 l4 k4 z4)⟩
  · have e : OLs r dy as p f = ((chF r f).filter (plQ r dy as p false)).foldl (addO r) (((chF r f).filter (plQ r dy as p true)).foldl (addO r) []) := by
      unfold OLs PLs; rw [List.foldl_append, plQ_t, plQ_f]
    show RkS w0 x (chF r f) w3 (OLs r dy as p f) (fun _ => 0)
    rw [e]; exact k3
  · have e : OLs r dy as p f = ((chF r f).filter (plQ r dy as p false)).foldl (addO r) (((chF r f).filter (plQ r dy as p true)).foldl (addO r) []) := by
      unfold OLs PLs; rw [List.foldl_append, plQ_t, plQ_f]
    show wI w3 6 4 rq = nI (OLs r dy as p f).length
    rw [e]; exact z3
theorem c_wholeAt (hA : AT w0 x m r0 r) (hf : f < nF r) (hq : RQ w0 x dy as p f rq mo) {w : Wd} (hs : Sq rq w0 w) {O : List Nat} {mv : Nat → Int32} (hR : RkS w0 x (chF r f) w O mv) (i : Int32) : Ct X bX6_wholeAt mX6_wholeAt [vR rq, vI i] w (qR fun a w' => w' = w ∧ a = match (chF r f).find? (fun y => decide (idx O y ≠ -1 ∧ idx O y = i)) with | some y => wA w0 x y | none => 0) := by
  have hF := hA.2.2.2.1.1 f hf
  have hch := hF.2.2.2.2.1
  refine oX6_wholeAt X _ _ i w ?_
  rw [hs.1.1, hs.1.2.1, hq.1.2.1]
  refine ⟨hq.1.1, hF.1, ?_⟩
  have key : ∀ (l : List Nat), (∀ y ∈ l, y ∈ chF r f) → ∀ a, Lk (wR w0 9 12) a (l.map (wA w0 x)) → ∀ A : Nat → Wd → Prop, A (match l.find? (fun y => decide (idx O y ≠ -1 ∧ idx O y = i)) with | some y => wA w0 x y | none => 0) w → jX6_wholeAt_8 X A i a w := by
    intro l
    induction l with
    | nil =>
      intro _ a hk A h
      have : a = 0 := hk
      exact tX6_wholeAt_8 X _ _ _ w ⟨fun _ => h, fun z => absurd this z⟩
    | cons y l ih =>
      intro hl a hk A h
      obtain ⟨rfl, hn, hk⟩ := Lk_cons hk
      have hy := hl y List.mem_cons_self
      have no : ¬ (idx O y ≠ -1 ∧ idx O y = i) → jX6_wholeAt_8 X A i (wR w0 9 12 (wA w0 x y)) w := fun e => ih (fun z hz => hl z (List.mem_cons_of_mem _ hz)) _ hk A (by
        rw [List.find?_cons, decide_eq_false e] at h; exact h)
      refine tX6_wholeAt_8 X _ _ _ w ⟨fun z => absurd z hn, fun _ => ?_⟩
      rw [hs.1.1, hs.1.2.1, (hR y hy).1]
      refine ⟨(ch_w hA hy).1, fun z => no (fun q => q.1 z), fun z => ⟨fun z2 => no (fun q => z2 q.2), fun z2 => ?_⟩⟩
      rw [List.find?_cons, decide_eq_true ⟨z, z2⟩] at h
      exact h
  exact key (chF r f) (fun _ z => z) _ hch _ ⟨rfl, rfl⟩
end O9
