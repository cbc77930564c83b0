/-! ===== post: the reference measures and draws ===== -/
section P3
variable {X : Cx} {w0 : Wd} {m : Nat}
theorem s_isUndone (hS : Sh w0 m) (r : Rs) (q : Nat) (hq : q < 101) : CM X w0 m bX11_isUndone mX11_isUndone [vI (nI q)] r (pI fun v r1 => v = bI (!(decide (rI r 37 q = -1))) ∧ r1 = r) := by
  refine pX11_isUndone X w0 m hS _ (nI q) r ⟨inN hq (by decide), ?_⟩
  rw [nI_clamp (by omega)]
  exact ⟨fun h => ⟨by simp [h, bI], rfl⟩, fun h => ⟨by simp [h, bI], rfl⟩⟩
/-- far stands for f -/
def FaF (r r1 : Rs) (f : Nat → Int32) : Prop := Pe r r1 ∧ ∀ k, 1 ≤ k → k ≤ nE r → rI r1 50 k = f k
theorem post_r {r : Rs} (hI : RI r) {q : Nat} (hq : q ∈ pos r) : (1 ≤ gA r q ∧ gA r q ≤ nE r) ∧ (1 ≤ gB r q ∧ gB r q ≤ nE r) ∧ vp_in (rI r 31 q) 301 ∧ vp_in (rI r 32 q) 301 ∧ rI r 5 (rI r 31 q).toNatClampNeg = nI (gA r q) ∧ rI r 5 (rI r 32 q).toNatClampNeg = nI (gB r q) ∧ q < 101 := by
  have hq' := pos_mem.mp hq
  have hp := hI.2.2.2.2.1 q hq'.1 hq'.2
  have hN := hI.1.2.1.2
  have hN2 := hI.1.2.2.2
  have a := hI.2.2.2.1 _ hp.2.1 hp.2.2.1
  have b := hI.2.2.2.1 _ hp.2.2.2.2.1 hp.2.2.2.2.2
  have a1 := a.2.1.2.1
  have b1 := b.2.1.2.1
  refine ⟨⟨a.2.1.1, Nat.le_trans a1 hp.2.2.1⟩, ⟨b.2.1.1, Nat.le_trans b1 hp.2.2.2.2.2⟩, by rw [hp.1]; exact inN (by omega) (by decide), by rw [hp.2.2.2.1]; exact inN (by omega) (by decide), a.1.2.1, b.1.2.1, by omega⟩
theorem s_rndLoop (hS : Sh w0 m) (r : Rs) (hI : RI r) (s : Nat) (hs : s + 1 < 2 ^ 31) (A : Rs → Prop) : ∀ (n q : Nat) (r1 : Rs) (f : Nat → Int32), q + n = nP r + 1 → 1 ≤ q → FaF r r1 f →
    (∀ r2, FaF r r2 (rnd r s (List.range' q n) f) → iX11_measure_34 X w0 m A (nI (s + 1)) r2) → iX11_measure_44 X w0 m A (nI s) (nI q) r1 := by
  have hN2 := hI.1.2.2.2
  intro n
  induction n with
  | zero =>
    intro q r1 f hq h1 hf h
    refine rX11_measure_44 X w0 m hS _ _ _ r1 ⟨fun _ => by rw [nI_1]; exact h r1 hf, fun z => ?_⟩
    rw [hf.1.1 38 rfl, hI.1.2.2.1] at z
    exact absurd (nI_lt (show nP r < q by omega) (by omega)) z
  | succ n ih =>
    intro q r1 f hq h1 hf h
    have hm : q ∈ pos r := pos_mem.mpr ⟨h1, by omega⟩
    obtain ⟨a1, b1, v1, v2, ea, eb, hq1⟩ := post_r hI hm
    have hN := hI.1.2.1.2
    have hv : vp_in (nI q) 101 := inN hq1 (by decide)
    refine rX11_measure_44 X w0 m hS _ _ _ r1 ⟨fun z => ?_, fun _ => ?_⟩
    · rw [hf.1.1 38 rfl, hI.1.2.2.1] at z
      have := (nI_ltI (by omega) (by omega)).mp z; omega
    · rw [nI_clamp (show q < 2 ^ 31 by omega), hf.1.2.2.1 31 rfl, hf.1.2.2.1 32 rfl, hf.1.2.2.1 5 rfl, ea, eb]
      refine ⟨hv, v1, hv, v2, (s_isUndone hS r1 q hq1).I ?_⟩
      rintro v r2 ⟨rfl, rfl⟩
      rw [hf.1.2.2.1 37 rfl, nI_clamp (show gB r q < 2 ^ 31 by omega), nI_clamp (show gA r q < 2 ^ 31 by omega), nI_1, nI_1, hf.2 _ a1.1 a1.2, hf.2 _ b1.1 b1.2]
      have skip : stp r s q f = f → iX11_measure_44 X w0 m A (nI s) (nI (q + 1)) r2 := fun e => ih (q + 1) r2 f (by omega) (by omega) hf (fun r3 h3 => h r3 (by rw [List.range'_succ]; show FaF r r3 (rnd r s _ (stp r s q f)); rw [e]; exact h3))
      refine ⟨fun z => skip ?_, fun z => ⟨inN (by omega) (by decide), fun z2 => skip ?_, fun z2 => ⟨inN (by omega) (by decide), fun z3 => skip ?_, fun z3 => ⟨inN (by omega) (by decide), ?_⟩⟩⟩⟩
      · rw [bI_n] at z
        unfold stp; rw [if_neg (fun y => by simp [y.1] at z)]
      · unfold stp; rw [if_neg (fun y => z2 y.2.1)]
      · unfold stp; rw [if_neg (fun y => z3 y.2.2)]
      · rintro r15 rfl
        rw [bI_0] at z
        have hu : rI r 37 q = -1 := by simpa using z
        have e : stp r s q f = ups f (gA r q) (nI (s + 1)) := by unfold stp; rw [if_pos ⟨hu, z2, z3⟩]
        refine ih (q + 1) _ (stp r s q f) (by omega) (by omega) ⟨hf.1.uI 50 _ _ rfl, fun k k1 k2 => ?_⟩ (fun r3 h3 => h r3 (by rw [List.range'_succ]; exact h3))
        rw [e, (R_uI r2 50 (gA r q) (nI (s + 1))).2.2.2]
        unfold ups
        by_cases hk : k = gA r q
        · rw [if_pos ⟨rfl, hk⟩, if_pos hk]
        · rw [if_neg (fun y => hk y.2), if_neg hk]; exact hf.2 k k1 k2
theorem s_farLoop (hS : Sh w0 m) (r : Rs) (hI : RI r) (g : Nat) (A : Rs → Prop) (h : ∀ r2, FaF r r2 (Fs r g (nE r)) → A r2) : ∀ (n s : Nat) (r1 : Rs), s + n = nE r → FaF r r1 (Fs r g s) → iX11_measure_34 X w0 m A (nI s) r1 := by
  have hN := hI.1.2.1.2
  intro n
  induction n with
  | zero =>
    intro s r1 hs hf
    have : s = nE r := by omega
    subst this
    refine rX11_measure_34 X w0 m hS _ _ r1 ⟨fun _ => h r1 hf, fun z => ?_⟩
    rw [hf.1.1 30 rfl, hI.1.2.1.1] at z
    exact absurd ((nI_leI (by omega) (by omega)).mpr (Nat.le_refl _)) z
  | succ n ih =>
    intro s r1 hs hf
    refine rX11_measure_34 X w0 m hS _ _ r1 ⟨fun z => ?_, fun _ => ?_⟩
    · rw [hf.1.1 30 rfl, hI.1.2.1.1] at z
      have := (nI_leI (by omega) (by omega)).mp z; omega
    · exact s_rndLoop hS r hI s (by omega) A (nP r) 1 r1 (Fs r g s) (by omega) (by omega) hf (fun r2 h2 => ih (s + 1) r2 (by omega) h2)
theorem s_measure (hS : Sh w0 m) (r r0 : Rs) (hp0 : Pe r r0) (hI : RI r) (g : Nat) (hg : g ≤ nE r) : CM X w0 m bX11_measure mX11_measure [vI (nI g)] r0 (pV fun r1 => FaF r r1 (Fs r g (nE r))) := by
  have hN := hI.1.2.1.2
  have key : ∀ (n e : Nat) (r1 : Rs), e + n = nE r + 1 → 1 ≤ e → Pe r r1 → (∀ k, 1 ≤ k → k < e → rI r1 50 k = Fs r g 0 k) → iX11_measure_2 X w0 m (fun r1 => FaF r r1 (Fs r g (nE r))) (nI g) (nI e) r1 := by
    intro n
    induction n with
    | zero =>
      intro e r1 he h1 hp hf
      refine rX11_measure_2 X w0 m hS _ _ _ r1 ⟨fun _ => ?_, fun z => ?_⟩
      · exact s_farLoop hS r hI g _ (fun _ z => z) (nE r) 0 r1 (by omega) ⟨hp, fun k k1 k2 => hf k k1 (by omega)⟩
      · rw [hp.1 30 rfl, hI.1.2.1.1] at z
        exact absurd (nI_lt (show nE r < e by omega) (by omega)) z
    | succ n ih =>
      intro e r1 he h1 hp hf
      have hv : vp_in (nI e) 301 := inN (by omega) (by decide)
      refine rX11_measure_2 X w0 m hS _ _ _ r1 ⟨fun z => ?_, fun _ => ?_⟩
      · rw [hp.1 30 rfl, hI.1.2.1.1] at z
        have := (nI_ltI (by omega) (by omega)).mp z; omega
      rw [nI_clamp (show e < 2 ^ 31 by omega), nI_1]
      have up : ∀ v : Int32, v = Fs r g 0 e → ∀ k, 1 ≤ k → k < e + 1 → rI (uI r1 50 e v) 50 k = Fs r g 0 k := fun v hv k k1 k2 => by
        rw [(R_uI r1 50 e v).2.2.2]
        by_cases hk : k = e
        · rw [if_pos ⟨rfl, hk⟩, hv, hk]
        · rw [if_neg (fun y => hk y.2)]; exact hf k k1 (by omega)
      refine ⟨fun z => ⟨hv, ?_⟩, fun z => ⟨hv, ?_⟩⟩
      · rintro r4 rfl
        refine ih (e + 1) _ (by omega) (by omega) (hp.uI 50 _ _ rfl) (up _ ?_)
        show _ = if e = g then (0 : Int32) else -1
        rw [if_neg (fun y => z (by rw [y]))]
      · rintro r4 rfl
        refine ih (e + 1) _ (by omega) (by omega) (hp.uI 50 _ _ rfl) (up _ ?_)
        show _ = if e = g then (0 : Int32) else -1
        rw [if_pos ((nI_eq (by omega) (by omega)).mp z)]
  exact pX11_measure X w0 m hS _ (nI g) r0 (key (nE r) 1 r0 (by omega) (by omega) hp0 (fun k k1 k2 => by omega))
/-- the ring holds L -/
def rg2 (r : Rs) (L : List Nat) : Rs := (fun k => if k = 52 then nI L.length else sS r k, sO r, fun k i => if k = 51 ∧ i < L.length then nI (L.getD i 0) else rI r k i, rJ r)
theorem rg2_add (r : Rs) (L : List Nat) (k : Nat) : uS (uI (rg2 r L) 51 L.length (nI k)) 52 (nI (L.length + 1)) = rg2 r (L ++ [k]) := by
  have e1 : ∀ j, sS (uS (uI (rg2 r L) 51 L.length (nI k)) 52 (nI (L.length + 1))) j = sS (rg2 r (L ++ [k])) j := fun j => by
    show (if j = 52 then nI (L.length + 1) else if j = 52 then nI L.length else sS r j) = (if j = 52 then nI (L ++ [k]).length else sS r j)
    by_cases h : j = 52
    · simp [h]
    · simp [h]
  have e2 : ∀ j i, rI (uS (uI (rg2 r L) 51 L.length (nI k)) 52 (nI (L.length + 1))) j i = rI (rg2 r (L ++ [k])) j i := fun j i => by
    show (if j = 51 ∧ i = L.length then nI k else if j = 51 ∧ i < L.length then nI (L.getD i 0) else rI r j i) = (if j = 51 ∧ i < (L ++ [k]).length then nI ((L ++ [k]).getD i 0) else rI r j i)
    by_cases h : j = 51
    · by_cases h2 : i = L.length
      · subst h2; simp [h]
      · by_cases h3 : i < L.length
        · have h4 : i < (L ++ [k]).length := by simp; omega
          rw [if_neg (fun y => h2 y.2), if_pos ⟨h, h3⟩, if_pos ⟨h, h4⟩]
          simp [List.getD, h3, List.getElem?_append]
        · have h4 : ¬ i < (L ++ [k]).length := by simp; omega
          rw [if_neg (fun y => h2 y.2), if_neg (fun y => h3 y.2), if_neg (fun y => h4 y.2)]
    · simp [h]
  have : (uS (uI (rg2 r L) 51 L.length (nI k)) 52 (nI (L.length + 1))) = (sS (uS (uI (rg2 r L) 51 L.length (nI k)) 52 (nI (L.length + 1))), sO r, rI (uS (uI (rg2 r L) 51 L.length (nI k)) 52 (nI (L.length + 1))), rJ r) := rfl
  rw [this, show sS (uS (uI (rg2 r L) 51 L.length (nI k)) 52 (nI (L.length + 1))) = sS (rg2 r (L ++ [k])) from funext e1, show rI (uS (uI (rg2 r L) 51 L.length (nI k)) 52 (nI (L.length + 1))) = rI (rg2 r (L ++ [k])) from funext fun j => funext fun i => e2 j i]
  rfl
theorem s_findLoop (hS : Sh w0 m) (r r1 : Rs) (hI : RI r) (F : Nat → Int32) (L : List Nat) (hf : FaF r r1 F) (g k : Nat) (k1 : 1 ≤ k) (k2 : k ≤ nE r) (A : Rs → Prop) : ∀ (i c : Nat), i ≤ nP r → (∀ q, (match (List.range' 1 i).find? (cnd r F k) with | some q => q | none => c) = q → q ∈ pos r ∧ iX11_draw_14 X w0 m A (nI g) (nI (gB r q)) (rg2 r1 L)) → iX11_draw_48 X w0 m A (nI g) (nI k) (nI c) (nI i) (rg2 r1 L) := by
  have hN := hI.1.2.1.2
  have hN2 := hI.1.2.2.2
  have rr : ∀ j, j ≠ 51 → scI j = false → rI (rg2 r1 L) j = rI r j := fun j hj hs => by
    funext i
    show (if j = 51 ∧ i < L.length then nI (L.getD i 0) else rI r1 j i) = _
    rw [if_neg (fun y => hj y.1), hf.1.2.2.1 j hs]
  have r50 : ∀ k, 1 ≤ k → k ≤ nE r → rI (rg2 r1 L) 50 k = F k := fun k a b => by
    show (if 50 = 51 ∧ k < L.length then nI (L.getD k 0) else rI r1 50 k) = _
    rw [if_neg (fun y => by omega)]; exact hf.2 k a b
  intro i
  induction i with
  | zero =>
    intro c hi h
    obtain ⟨hq, h⟩ := h c rfl
    obtain ⟨a1, b1, v1, v2, ea, eb, hq1⟩ := post_r hI hq
    refine rX11_draw_48 X w0 m hS _ _ _ _ _ _ ⟨fun _ => ?_, fun z => absurd (by decide) z⟩
    rw [nI_clamp (show c < 2 ^ 31 by omega), rr 32 (by decide) rfl, rr 5 (by decide) rfl, eb]
    exact ⟨inN hq1 (by decide), v2, h⟩
  | succ i ih =>
    intro c hi h
    have hm : i + 1 ∈ pos r := pos_mem.mpr ⟨by omega, by omega⟩
    obtain ⟨a1, b1, v1, v2, ea, eb, hq1⟩ := post_r hI hm
    have hv : vp_in (nI (i + 1)) 101 := inN hq1 (by decide)
    refine rX11_draw_48 X w0 m hS _ _ _ _ _ _ ⟨fun z => ?_, fun _ => (s_isUndone hS _ (i + 1) hq1).I ?_⟩
    · have := (nI_leI (a := i + 1) (b := 0) (by omega) (by omega)).mp z; omega
    rintro v r2 ⟨rfl, rfl⟩
    rw [nI_clamp (show i + 1 < 2 ^ 31 by omega), rr 37 (by decide) rfl, rr 31 (by decide) rfl, rr 32 (by decide) rfl, rr 5 (by decide) rfl, ea, eb, nI_clamp (show gB r (i + 1) < 2 ^ 31 by omega), nI_clamp (show k < 2 ^ 31 by omega), r50 _ b1.1 b1.2, r50 _ k1 k2]
    have e1 : nI (i + 1) + -1 = nI i := by rw [← Int32.sub_eq_add_neg]; exact nI_pred i
    rw [e1]
    have cat : List.range' 1 (i + 1) = List.range' 1 i ++ [i + 1] := by rw [List.range'_1_concat, Nat.add_comm 1 i]
    have no : cnd r F k (i + 1) = false → iX11_draw_48 X w0 m A (nI g) (nI k) (nI c) (nI i) (rg2 r1 L) := fun e => ih c (by omega) (fun q hq => h q (by
      rw [cat, List.find?_append]
      cases hx : (List.range' 1 i).find? (cnd r F k) with
      | some q' => rw [hx] at hq; exact hq
      | none => rw [hx] at hq; simp only [Option.none_or, List.find?_cons, e, List.find?_nil]; exact hq))
    have yes : cnd r F k (i + 1) = true → iX11_draw_48 X w0 m A (nI g) (nI k) (nI (i + 1)) (nI i) (rg2 r1 L) := fun e => ih (i + 1) (by omega) (fun q hq => h q (by
      rw [cat, List.find?_append]
      cases hx : (List.range' 1 i).find? (cnd r F k) with
      | some q' => rw [hx] at hq; exact hq
      | none => rw [hx] at hq; simp only [Option.none_or, List.find?_cons, e]; exact hq))
    refine ⟨fun z => ⟨fun _ => no ?_, fun y => absurd rfl y⟩, fun z => ⟨hv, v1, fun z2 => ⟨fun _ => no ?_, fun y => absurd rfl y⟩, fun z2 => ⟨hv, v2, inN (by omega) (by decide), inN (by omega) (by decide), fun z3 => ⟨fun _ => no ?_, fun y => absurd rfl y⟩, fun z3 => ⟨fun y => absurd y (by decide), fun _ => yes ?_⟩⟩⟩⟩
    · rw [bI_n] at z
      unfold cnd; rw [decide_eq_false_iff_not]; exact fun y => by simp [y.1] at z
    · unfold cnd; rw [decide_eq_false_iff_not]; exact fun y => z2 (by rw [y.2.1])
    · unfold cnd; rw [decide_eq_false_iff_not]; exact fun y => z3 y.2.2
    · rw [bI_0] at z
      unfold cnd; rw [decide_eq_true_eq]
      exact ⟨by simpa using z, (nI_eq (by omega) (by omega)).mp z2, z3⟩
theorem s_drawLoop (hS : Sh w0 m) (r r1 : Rs) (hI : RI r) (g : Nat) (hg : g ≤ nE r) (hf : FaF r r1 (Fs r g 100)) (A : Rs → Prop) : ∀ (d k : Nat) (L : List Nat), 1 ≤ k → k ≤ nE r → Fs r g 100 k = nI d → d + L.length ≤ 101 → A (rg2 r1 (L ++ pth r (Fs r g 100) d k)) → iX11_draw_14 X w0 m A (nI g) (nI k) (rg2 r1 L) := by
  have hN := hI.1.2.1.2
  have hN2 := hI.1.2.2.2
  intro d
  induction d with
  | zero =>
    intro k L k1 k2 hd hL h
    have e : k = g := Fs_0.mp hd
    refine rX11_draw_14 X w0 m hS _ _ _ _ ⟨fun _ => ?_, fun z => absurd (by rw [e]) z⟩
    have h' : A (rg2 r1 (L ++ [])) := h
    rw [List.append_nil] at h'
    exact h'
  | succ d ih =>
    intro k L k1 k2 hd hL h
    obtain ⟨q, q1, q2, q3, q4, q5⟩ := nxt_ok hd (by omega)
    have hnx : nxt r (Fs r g 100) k = gB r q := by unfold nxt; rw [q2]
    refine rX11_draw_14 X w0 m hS _ _ _ _ ⟨fun z => ?_, fun _ => ?_⟩
    · have e := (nI_eq (by omega) (by omega)).mp z
      have := (Fs_0 (r := r)).mpr e
      rw [hd] at this
      exact absurd ((nI_z (by omega)).mp this) (by omega)
    · have e52 : sS (rg2 r1 L) 52 = nI L.length := rfl
      rw [e52, nI_clamp (by omega)]
      refine ⟨inN (by omega) (by decide), ?_⟩
      rintro r3 rfl
      have e52' : sS (uI (rg2 r1 L) 51 L.length (nI k)) 52 = nI L.length := rfl
      rw [e52', nI_1, rg2_add]
      rintro r5 rfl
      have e38 : sS (rg2 r1 (L ++ [k])) 38 = nI (nP r) := by
        show sS r1 38 = _
        rw [hf.1.1 38 rfl]; exact hI.1.2.2.1
      rw [e38]
      refine s_findLoop (X := X) hS r r1 hI (Fs r g 100) (L ++ [k]) hf g k k1 k2 A (nP r) 0 (Nat.le_refl _) (fun q' hq' => ?_)
      have e0 : (List.range' 1 (nP r)).find? (cnd r (Fs r g 100) k) = some q := q2
      rw [e0] at hq'
      have hqq : q = q' := hq'
      subst hqq
      obtain ⟨-, b1, -⟩ := post_r hI q1
      refine ⟨q1, ih (gB r q) (L ++ [k]) b1.1 b1.2 q5 (by simp; omega) ?_⟩
      rw [List.append_assoc]
      show A (rg2 r1 (L ++ (k :: pth r (Fs r g 100) d (gB r q))))
      rw [← hnx]; exact h
theorem s_draw (hS : Sh w0 m) (r r1 : Rs) (hI : RI r) (g st d : Nat) (hg : g ≤ nE r) (t1 : 1 ≤ st) (t2 : st ≤ nE r) (hf : FaF r r1 (Fs r g 100)) (hd : Fs r g 100 st = nI d) (hd' : d ≤ 100) : CM X w0 m bX11_draw mX11_draw [vI (nI g), vI (nI st)] r1 (pV fun r2 => r2 = rg2 r1 (g :: pth r (Fs r g 100) d st)) := by
  refine pX11_draw X w0 m hS _ (nI g) (nI st) r1 ⟨inN (i := 0) (by decide) (by decide), ?_⟩
  rintro r2 rfl r4 rfl
  have e : uS (uI r1 51 (0 : Int32).toNatClampNeg (nI g)) 52 1 = rg2 r1 [g] := by
    have h := rg2_add r1 [] g
    have e0 : uS (uI (rg2 r1 []) 51 0 (nI g)) 52 (nI 1) = uS (uI r1 51 0 (nI g)) 52 1 := by
      have a1 : ∀ j, sS (uS (uI (rg2 r1 []) 51 0 (nI g)) 52 (nI 1)) j = sS (uS (uI r1 51 0 (nI g)) 52 1) j := fun j => by
        show (if j = 52 then nI 1 else if j = 52 then nI 0 else sS r1 j) = (if j = 52 then 1 else sS r1 j)
        by_cases h : j = 52
        · simp only [h, if_true]; rfl
        · simp only [h, if_false]
      have a2 : ∀ j i, rI (uS (uI (rg2 r1 []) 51 0 (nI g)) 52 (nI 1)) j i = rI (uS (uI r1 51 0 (nI g)) 52 1) j i := fun j i => by
        show (if j = 51 ∧ i = 0 then nI g else if j = 51 ∧ i < 0 then _ else rI r1 j i) = (if j = 51 ∧ i = 0 then nI g else rI r1 j i)
        simp
      have : uS (uI (rg2 r1 []) 51 0 (nI g)) 52 (nI 1) = (sS (uS (uI (rg2 r1 []) 51 0 (nI g)) 52 (nI 1)), sO r1, rI (uS (uI (rg2 r1 []) 51 0 (nI g)) 52 (nI 1)), rJ r1) := rfl
      rw [this, show sS (uS (uI (rg2 r1 []) 51 0 (nI g)) 52 (nI 1)) = sS (uS (uI r1 51 0 (nI g)) 52 1) from funext a1, show rI (uS (uI (rg2 r1 []) 51 0 (nI g)) 52 (nI 1)) = rI (uS (uI r1 51 0 (nI g)) 52 1) from funext fun j => funext fun i => a2 j i]
      rfl
    exact e0.symm.trans h
  rw [e]
  exact s_drawLoop hS r r1 hI g hg hf _ d st [g] t1 t2 hd (by simp; omega) rfl
end P3
