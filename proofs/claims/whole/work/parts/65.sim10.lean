/-! ===== undo, check ===== -/
theorem CP_at {w : Wd} {x : Nat} {r : Rs} {pl : List Nat} (h : CP w x r pl) {q : Nat} (hq : q < nP r) : ∃ y, pl[q]? = some y ∧ pl.getD q 0 = y := by
  have : q < pl.length := by rw [h.2.1]; exact hq
  exact ⟨pl[q], List.getElem?_eq_getElem this, by simp [List.getD, this]⟩
/-- the post p, or null -/
theorem c_postAt {X : Cx} (w : Wd) (x : Nat) (r : Rs) (pl : List Nat) (hC : CS w x r) (hc : RIc r) (hP : CP w x r pl) (p : Int32) : Ct X bX10_postAt mX10_postAt [vR x, vI p] w (qR fun a w' => w' = w ∧ ((∀ q, q < nP r → p ≠ nI (q + 1)) → a = 0) ∧ ∀ q, q < nP r → p = nI (q + 1) → a = pl.getD q 0) := by
  have hN := hc.2.2.2
  refine oX10_postAt X _ x p w ⟨hC.1.1, ?_⟩
  have key : ∀ (l : List Nat) (i a : Nat), pl.drop i = l → i ≤ nP r → (∀ q, q < i → p ≠ nI (q + 1)) → Lk (wR w 5 6) a l → jX10_postAt_5 X (fun a w' => w' = w ∧ ((∀ q, q < nP r → p ≠ nI (q + 1)) → a = 0) ∧ ∀ q, q < nP r → p = nI (q + 1) → a = pl.getD q 0) p a w := by
    intro l
    induction l with
    | nil =>
      intro i a hd hi hno hk
      have hle : pl.length ≤ i := List.drop_eq_nil_iff.mp hd
      refine tX10_postAt_5 X _ _ _ w ⟨fun _ => ⟨rfl, fun _ => rfl, fun q hq e => absurd e (hno q (by rw [hP.2.1] at hle; omega))⟩, fun h => absurd hk h⟩
    | cons y t ih =>
      intro i a hd hi hno hk
      obtain ⟨rfl, hn, hk⟩ := Lk_cons hk
      have hil : i < nP r := by
        rcases Nat.lt_or_ge i pl.length with h | h
        · rw [hP.2.1] at h; exact h
        · rw [List.drop_eq_nil_iff.mpr h] at hd; cases hd
      have hy : pl.getD i 0 = a := by
        have h3 : pl[i]? = some a := by rw [← List.head?_drop, hd]; rfl
        simp [List.getD, h3]
      have hPi := hP.2.2.2 i hil
      rw [hy] at hPi
      refine tX10_postAt_5 X _ _ _ w ⟨fun h => absurd h hn, fun _ => ⟨hPi.1, ?_⟩⟩
      rw [hPi.2.1]
      refine ⟨fun hne => ?_, fun heq => ⟨rfl, fun hno2 => absurd heq.symm (hno2 i hil), fun q hq e => ?_⟩⟩
      · refine ih (i + 1) _ (by rw [← List.drop_drop, hd]; rfl) (by omega) (fun q hq => ?_) hk
        by_cases h : q = i
        · subst h; exact fun e => hne e.symm
        · exact hno q (by omega)
      · have : i = q := by
          have := heq.trans e
          have := (nI_eq (show i + 1 < 2 ^ 31 by omega) (show q + 1 < 2 ^ 31 by omega)).mp this
          omega
        subst this
        exact hy.symm
  exact key pl 0 _ rfl (Nat.zero_le _) (fun q hq => absurd hq (by omega)) hP.1
theorem AT_undo {w : Wd} {x m q n : Nat} {r r' : Rs} {d k : Int32} {pl : List Nat} (hA : AT w x m r r') (hP : CP w x r' pl) (hq : Ac w q d k) (hn : n < nP r') : AT (sR w 5 5 (pl.getD n 0) q) x m r (uI (uI r' 36 (n + 1) d) 37 (n + 1) k) := by
  obtain ⟨hM, hD, hC, ⟨hF, hE, hW, _, hX⟩, hI⟩ := hA
  have hN := hI.1.2.2.2
  refine ⟨MO_sR 5 5 _ q (by decide) hM, hD, hC, ⟨CF_R (w := w) (r := r') rfl rfl rfl rfl rfl rfl rfl rfl rfl rfl rfl rfl rfl rfl rfl hF, hE, hW, ⟨pl, hP.1, hP.2.1, hP.2.2.1, fun j hj => ?_⟩, hX⟩, hI⟩
  have h := hP.2.2.2 j hj
  refine ⟨h.1, h.2.1, h.2.2.1, h.2.2.2.1, h.2.2.2.2.1, h.2.2.2.2.2.1, h.2.2.2.2.2.2.1, ?_⟩
  show Ac w (if 5 = 5 ∧ 5 = 5 ∧ pl.getD j 0 = pl.getD n 0 then q else wR w 5 5 (pl.getD j 0)) (if 36 = 36 ∧ j + 1 = n + 1 then d else rI r' 36 (j + 1)) (if 37 = 37 ∧ j + 1 = n + 1 then k else rI r' 37 (j + 1))
  by_cases hjn : j = n
  · subst hjn; simpa using hq
  · have h1 : pl.getD j 0 ≠ pl.getD n 0 := fun e => by
      have a := h.2.1
      have b := (hP.2.2.2 n hn).2.1
      rw [e, b] at a
      have hj' : j < nP r' := hj
      have := (nI_eq (show n + 1 < 2 ^ 31 by omega) (show j + 1 < 2 ^ 31 by omega)).mp a
      omega
    have h2 : ¬ j + 1 = n + 1 := by omega
    simp only [h1, h2, and_false, if_false]
    exact h.2.2.2.2.2.2.2
theorem sm_undo (p : Int32) : SmI bX10_undo mX10_undo bX11_undo mX11_undo [vI p] := by
  intro X w x m r hA
  have hC := hA.2.2.1
  have hc := hA.2.2.2.2.1
  have h4 := hA.2.2.2.1
  have hz := hA.2.1.1
  have hN := hc.2.2.2
  obtain ⟨pl, hP⟩ := h4.2.2.2.1
  refine oX10_undo X _ x p w ⟨hC.1.1, (c_postAt w x r pl hC hc hP p).R ?_⟩
  rintro a w1 ⟨rfl, ha1, ha2⟩
  by_cases hp : ∃ q, q < nP r ∧ p = nI (q + 1)
  · obtain ⟨n, hn, rfl⟩ := hp
    rw [ha2 n hn rfl]
    have hPn := hP.2.2.2 n hn
    have h0 := K_nz hz hPn.1
    have hnc : (nI (n + 1)).toNatClampNeg = n + 1 := nI_clamp (by omega)
    have hv : vp_in (nI (n + 1)) 101 := inN (by omega) (by omega)
    have g1 : ¬ nI (n + 1) < 1 := by
      have : ¬ nI (n + 1) < nI 1 := by rw [nI_ltI (by omega) (by omega)]; omega
      exact this
    have g2 : nI (n + 1) ≤ sS r 38 := by rw [hc.2.2.1, nI_leI (by omega) (by omega)]; omega
    have hiu : ∀ (w' : Wd), Sh w' m → CM X w' m bX11_isUndone mX11_isUndone [vI (nI (n + 1))] r (pI fun v r1 => v = bI (decide (rI r 37 (n + 1) ≠ -1)) ∧ r1 = r) := by
      intro w' hS
      refine pX11_isUndone X w' m hS _ _ r ?_
      rw [hnc]
      exact ⟨hv, fun h => ⟨by simp [h, bI], rfl⟩, fun h => ⟨by simp [h, bI], rfl⟩⟩
    refine oX10_undoFault X _ _ w1 ⟨fun _ => ⟨hPn.1, ?_⟩, fun q => absurd q h0⟩
    rw [Ac_z hz hPn.2.2.2.2.2.2.2]
    refine ⟨fun h => ⟨hC.1.1, (c_settle w1 x 0 hC.1.1).I ?_⟩, fun h => ⟨hC.1.1, (c_settle w1 x 8 hC.1.1).I ?_⟩⟩
    · rintro v w2 ⟨rfl, rfl⟩
      have hA0 := AT_st 0 hA
      refine ⟨fun q => absurd q (by decide), fun _ => ⟨fun _ => ⟨hC.1.1, (c_newAct (sI w1 10 13 x 0) x (uS r 41 0) hA0.2.2.1).R ?_⟩, fun q => absurd q h0⟩⟩
      intro q w4 hna
      have hA4 := hna.AT hA0
      have hg := hna.2.2.1
      refine ⟨(hg (pl.getD n 0) (by show wK w1 _ ≠ 0; rw [hPn.1]; decide)).1.trans hPn.1, ?_⟩
      rintro w5 rfl
      obtain ⟨pl', hP'⟩ := hA4.2.2.2.1.2.2.2.1
      -- the chain is the same
      have hsame : pl' = pl := by
        have hx : wR w4 10 6 x = wR w1 10 6 x := (hg x (by show wK w1 x ≠ 0; rw [hC.1.1]; decide)).2.2.2.2.1 10 6
        have hnx : ∀ y ∈ pl, wR w4 5 6 y = wR w1 5 6 y := fun y hy => by
          obtain ⟨i, hi, rfl⟩ := List.mem_iff_getElem.mp hy
          have h7 := (hP.2.2.2 i (by rw [← hP.2.1]; exact hi)).1
          have : pl.getD i 0 = pl[i] := by simp [List.getD, hi]
          rw [this] at h7
          exact (hg pl[i] (by show wK w1 _ ≠ 0; rw [h7]; decide)).2.2.2.2.1 5 6
        have uniq : ∀ (l l' : List Nat) (a : Nat), (∀ y ∈ l, wR w4 5 6 y = wR w1 5 6 y) → Lk (wR w1 5 6) a l → Lk (wR w4 5 6) a l' → l' = l := by
          intro l
          induction l with
          | nil =>
            intro l' a _ h1 h2
            cases l' with
            | nil => rfl
            | cons b t => obtain ⟨e1, e2, -⟩ := Lk_cons h2; exact absurd (e1.symm.trans h1) e2
          | cons y t ih =>
            intro l' a hy h1 h2
            obtain ⟨e1, e2, e3⟩ := Lk_cons h1
            cases l' with
            | nil => exact absurd (e1.symm.trans h2) e2
            | cons b t' =>
              obtain ⟨f1, f2, f3⟩ := Lk_cons h2
              have : b = y := f1.symm.trans e1
              subst this
              rw [hy b List.mem_cons_self] at f3
              rw [ih t' _ (fun z hz => hy z (List.mem_cons_of_mem _ hz)) e3 f3]
        exact uniq pl pl' _ hnx hP.1 (by have := hP'.1; rw [hx] at this; exact this)
      rw [hsame] at hP'
      have hT := AT_undo (r' := uS r 41 0) hA4 hP' (hna.Ac (today_ne hA0.2.2.2.2.2.2.2.2.2)) hn
      refine ⟨_, hT, pX11_undo X _ m hT.1.1 _ _ r ⟨fun z => absurd z g1, fun _ => ⟨fun _ => (hiu _ hT.1.1).I ?_, fun z => absurd g2 z⟩⟩⟩
      rintro v r1 ⟨rfl, rfl⟩
      refine ⟨fun _ => (s_dateNow hT.1.1 r1).I ?_, fun z => absurd (by simp [h, bI]) z⟩
      rintro v r2 ⟨rfl, rfl⟩
      rw [hnc]
      refine ⟨hv, ?_⟩
      rintro r3 rfl
      refine ⟨hv, ?_⟩
      rintro r4 rfl r5 rfl
      exact ⟨rfl, Pe.rf _⟩
    · rintro v w2 ⟨rfl, rfl⟩
      have hT := AT_st 8 hA
      refine ⟨fun _ => ⟨_, hT, pX11_undo X _ m hT.1.1 _ _ r ⟨fun z => absurd z g1, fun _ => ⟨fun _ => (hiu _ hT.1.1).I ?_, fun z => absurd g2 z⟩⟩⟩, fun z => absurd rfl z⟩
      rintro v r1 ⟨rfl, rfl⟩
      exact ⟨fun z => absurd z (by simp [h, bI]), fun _ => cm_no hT.1.1 (Pe.rf _) 8⟩
  · have hno : ∀ q, q < nP r → p ≠ nI (q + 1) := fun q hq e => hp ⟨q, hq, e⟩
    rw [ha1 hno]
    refine oX10_undoFault X _ 0 w1 ⟨fun q => absurd rfl q, fun _ => ⟨hC.1.1, (c_settle w1 x 1 hC.1.1).I ?_⟩⟩
    rintro v w2 ⟨rfl, rfl⟩
    have hT := AT_st 1 hA
    refine ⟨fun _ => ⟨_, hT, pX11_undo X _ m hT.1.1 _ _ r ⟨fun _ => cm_no hT.1.1 (Pe.rf _) 1, fun g1 => ⟨fun g2 => ?_, fun _ => cm_no hT.1.1 (Pe.rf _) 1⟩⟩⟩, fun z => absurd rfl z⟩
    exfalso
    have g0 : ¬ p < 0 := by
      rw [Int32.lt_iff_toInt_lt] at g1 ⊢
      have : (1 : Int32).toInt = 1 := by decide
      have : (0 : Int32).toInt = 0 := by decide
      omega
    obtain ⟨j, hj, rfl⟩ := nI_of g0
    have g1 : ¬ nI j < nI 1 := g1
    rw [nI_ltI (by omega) (by omega)] at g1
    rw [hc.2.2.1, nI_leI (by omega) (by omega)] at g2
    exact hno (j - 1) (by omega) (by rw [show j - 1 + 1 = j by omega])

/-! ===== check ===== -/
/-- the told sums from e on are set to 0 -/
def zT (r : Rs) (n : Nat) : Rs := (r.1, r.2.1, r.2.2.1, fun k i => if k = 63 ∧ 1 ≤ i ∧ i ≤ n then 0 else r.2.2.2 k i)
theorem zT_S (r : Rs) (n : Nat) : sS (zT r n) = sS r ∧ sO (zT r n) = sO r ∧ rI (zT r n) = rI r := ⟨rfl, rfl, rfl⟩
theorem zT_J (r : Rs) (n k i : Nat) : rJ (zT r n) k i = if k = 63 ∧ 1 ≤ i ∧ i ≤ n then 0 else rJ r k i := rfl
theorem zT_0 (r : Rs) : zT r 0 = r := by
  unfold zT
  refine Prod.ext rfl (Prod.ext rfl (Prod.ext rfl ?_))
  funext k i
  show (if k = 63 ∧ 1 ≤ i ∧ i ≤ 0 then 0 else r.2.2.2 k i) = _
  rw [if_neg (by omega)]
theorem zT_s (r : Rs) (n : Nat) : uJ (zT r n) 63 (n + 1) 0 = zT r (n + 1) := by
  unfold zT uJ u2
  refine Prod.ext rfl (Prod.ext rfl (Prod.ext rfl ?_))
  funext k i
  show (if k = 63 ∧ i = n + 1 then 0 else if k = 63 ∧ 1 ≤ i ∧ i ≤ n then 0 else r.2.2.2 k i) = (if k = 63 ∧ 1 ≤ i ∧ i ≤ n + 1 then 0 else r.2.2.2 k i)
  by_cases h1 : k = 63 ∧ i = n + 1
  · rw [if_pos h1, if_pos (by omega)]
  · rw [if_neg h1]
    by_cases h2 : k = 63 ∧ 1 ≤ i ∧ i ≤ n
    · rw [if_pos h2, if_pos (by omega)]
    · rw [if_neg h2, if_neg (by omega)]
/-- a whole whose told sum isn't its share -/
def badB (r : Rs) (e : Nat) : Bool := decide (paR r e = 0) && !(decide (rJ r 63 e = rJ r 62 e))
/-- the least bad one among i+1 .. i+n, 0 if there is none -/
def lst (f : Nat → Bool) (i : Nat) : Nat → Nat
  | 0 => 0
  | n + 1 => if f (i + 1) then i + 1 else lst f (i + 1) n
theorem lst_up (f : Nat → Bool) : ∀ (n i : Nat), lst f i (n + 1) = if lst f i n = 0 then (if f (i + n + 1) then i + n + 1 else 0) else lst f i n := by
  intro n
  induction n with
  | zero => intro i; unfold lst; simp [lst]
  | succ n ih =>
    intro i
    rw [lst, ih (i + 1)]
    show _ = if lst f i (n + 1) = 0 then _ else lst f i (n + 1)
    have e1 : lst f i (n + 1) = if f (i + 1) then i + 1 else lst f (i + 1) n := rfl
    rw [e1]
    by_cases hf : f (i + 1) = true
    · simp [hf]
    · simp [hf]
      rw [show i + 1 + n + 1 = i + (n + 1) + 1 by omega]
