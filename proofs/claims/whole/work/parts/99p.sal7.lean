/-! ===== the sale: the reference gives ===== -/
section RT
variable {X : Cx} {w0 : Wd} {m : Nat} {r : Rs} {p f : Nat} {d h : Nat → Int64} {c : Nat → Bool}
theorem s_gotBy (hS : Sh w0 m) (hI : RI r) {r1 : Rs} (hp : Pe r r1) (hG : Go r d h c r1) {e : Nat} (e1 : 1 ≤ e) (e2 : e ≤ nE r) : CM X w0 m bX11_gotBy mX11_gotBy [vI (nI e)] r1 (pJ fun v r2 => v = sumF h 0 (lvs (fiR r) e) ∧ Fg 59 r1 r2 ∧ Go r d h c r2) := by
  have hN := hI.1.2.1.2
  obtain ⟨el, hl, hat⟩ := le_at hp hI e1 e2
  have hI1 := RI_mv hp hI
  refine pX11_gotBy X w0 m hS _ _ r1 ((s_leavesOf hS r1 hI1.1 hI1.2.2.2.1 e e1 (by rw [hp.nn.2.1]; exact e2)).V ?_)
  rintro r2 rfl
  obtain ⟨g0, le0⟩ := fg_setL 59 r1 e (by rw [el]; omega)
  have le0' : Le r e (setL r1 e) := by unfold Le at *; rw [el] at le0; exact le0
  have hG' : Go r d h c (setL r1 e) := fun y y1 y2 => by rw [sL_J, g0.2.2.1 61 (by decide)]; exact hG y y1 y2
  have key : ∀ (t : List Nat) (i : Nat) (s : Int64), (lvs (fiR r) e).drop i = t → i ≤ (lvs (fiR r) e).length → iX11_gotBy_10 X w0 m (fun v r2 => v = sumF h s t ∧ Fg 59 r1 r2 ∧ Go r d h c r2) s (nI i) (setL r1 e) := by
    intro t
    induction t with
    | nil =>
      intro i s ht hi
      have hi2 : (lvs (fiR r) e).length ≤ i := List.drop_eq_nil_iff.mp ht
      refine rX11_gotBy_10 X w0 m hS _ s _ _ ?_
      rw [le0'.1, nI_leI (by omega) (by omega)]
      exact ⟨fun _ => ⟨rfl, g0, hG'⟩, fun q => absurd hi2 q⟩
    | cons y t ih =>
      intro i s ht hi
      obtain ⟨hi2, hy, ht2⟩ := drop_cons ht
      have hyb := hat i hi2
      rw [hy] at hyb
      refine rX11_gotBy_10 X w0 m hS _ s _ _ ?_
      rw [le0'.1, nI_leI (by omega) (by omega), nI_clamp (show i < 2 ^ 31 by omega), le0'.2 i hi2, hy, nI_clamp (show y < 2 ^ 31 by omega), (hG' y hyb.1 hyb.2.1).2.1, nI_1]
      exact ⟨fun q => absurd hi2 (by omega), fun _ => ⟨inN (by omega) (by decide), inN (by omega) (by decide), ih (i + 1) _ ht2 (by omega)⟩⟩
  exact key _ 0 0 rfl (Nat.zero_le _)
theorem s_dueIn (hS : Sh w0 m) (hI : RI r) {r1 : Rs} (hp : Pe r r1) (hG : Go r d h c r1) {e : Nat} (e1 : 1 ≤ e) (e2 : e ≤ nE r) : CM X w0 m bX11_dueIn mX11_dueIn [vI (nI e)] r1 (pJ fun v r2 => v = sumF d 0 (lvs (fiR r) e) ∧ Fg 59 r1 r2 ∧ Go r d h c r2) := by
  have hN := hI.1.2.1.2
  obtain ⟨el, hl, hat⟩ := le_at hp hI e1 e2
  have hI1 := RI_mv hp hI
  refine pX11_dueIn X w0 m hS _ _ r1 ((s_leavesOf hS r1 hI1.1 hI1.2.2.2.1 e e1 (by rw [hp.nn.2.1]; exact e2)).V ?_)
  rintro r2 rfl
  obtain ⟨g0, le0⟩ := fg_setL 59 r1 e (by rw [el]; omega)
  have le0' : Le r e (setL r1 e) := by unfold Le at *; rw [el] at le0; exact le0
  have hG' : Go r d h c (setL r1 e) := fun y y1 y2 => by rw [sL_J, g0.2.2.1 61 (by decide)]; exact hG y y1 y2
  have key : ∀ (t : List Nat) (i : Nat) (s : Int64), (lvs (fiR r) e).drop i = t → i ≤ (lvs (fiR r) e).length → iX11_dueIn_10 X w0 m (fun v r2 => v = sumF d s t ∧ Fg 59 r1 r2 ∧ Go r d h c r2) s (nI i) (setL r1 e) := by
    intro t
    induction t with
    | nil =>
      intro i s ht hi
      have hi2 : (lvs (fiR r) e).length ≤ i := List.drop_eq_nil_iff.mp ht
      refine rX11_dueIn_10 X w0 m hS _ s _ _ ?_
      rw [le0'.1, nI_leI (by omega) (by omega)]
      exact ⟨fun _ => ⟨rfl, g0, hG'⟩, fun q => absurd hi2 q⟩
    | cons y t ih =>
      intro i s ht hi
      obtain ⟨hi2, hy, ht2⟩ := drop_cons ht
      have hyb := hat i hi2
      rw [hy] at hyb
      refine rX11_dueIn_10 X w0 m hS _ s _ _ ?_
      rw [le0'.1, nI_leI (by omega) (by omega), nI_clamp (show i < 2 ^ 31 by omega), le0'.2 i hi2, hy, nI_clamp (show y < 2 ^ 31 by omega), (hG' y hyb.1 hyb.2.1).1, nI_1]
      exact ⟨fun q => absurd hi2 (by omega), fun _ => ⟨inN (by omega) (by decide), inN (by omega) (by decide), ih (i + 1) _ ht2 (by omega)⟩⟩
  exact key _ 0 0 rfl (Nat.zero_le _)
theorem Go.up {r1 : Rs} (hG : Go r d h c r1) (y : Nat) (v : Int64) : Go r d (upJ h y v) c (uJ r1 59 y v) := fun z z1 z2 => by
  have hz := hG z z1 z2
  have u60 : rJ (uJ r1 59 y v) 60 z = rJ r1 60 z := by simp [R_uJ]
  have u59 : rJ (uJ r1 59 y v) 59 z = if z = y then v else rJ r1 59 z := by simp [R_uJ]
  have u61 : rI (uJ r1 59 y v) 61 z = rI r1 61 z := rfl
  rw [u60, u59, u61]
  refine ⟨hz.1, ?_, hz.2.2⟩
  unfold upJ
  by_cases e : z = y
  · rw [if_pos e, if_pos e]
  · rw [if_neg e, if_neg e]; exact hz.2.1
theorem s_gets (hS : Sh w0 m) (hI : RI r) {r1 : Rs} (hp : Pe r r1) (hG : Go r d h c r1) {e : Nat} (e1 : 1 ≤ e) (e2 : e ≤ nE r) (a : Int64) : CM X w0 m bX11_gets mX11_gets [vI (nI e), vJ a] r1 (pV fun r2 => Fg 59 r1 r2 ∧ Go r d (getL d (lvs (fiR r) e) a h).1 c r2) := by
  have hN := hI.1.2.1.2
  obtain ⟨el, hl, hat⟩ := le_at hp hI e1 e2
  have hI1 := RI_mv hp hI
  refine pX11_gets X w0 m hS _ _ a r1 ((s_leavesOf hS r1 hI1.1 hI1.2.2.2.1 e e1 (by rw [hp.nn.2.1]; exact e2)).V ?_)
  rintro r2 rfl
  obtain ⟨g0, le0⟩ := fg_setL 59 r1 e (by rw [el]; omega)
  have le0' : Le r e (setL r1 e) := by unfold Le at *; rw [el] at le0; exact le0
  have hG' : Go r d h c (setL r1 e) := fun y y1 y2 => by rw [sL_J, g0.2.2.1 61 (by decide)]; exact hG y y1 y2
  have key : ∀ (t : List Nat) (i : Nat) (o : Int64) (h' : Nat → Int64) (r2 : Rs), (lvs (fiR r) e).drop i = t → i ≤ (lvs (fiR r) e).length → Fg 59 r1 r2 → Le r e r2 → Go r d h' c r2 → iX11_gets_11 X w0 m (fun r2 => Fg 59 r1 r2 ∧ Go r d (getL d t o h').1 c r2) o (nI i) r2 := by
    intro t
    induction t with
    | nil =>
      intro i o h' r2 ht hi hF hL hG2
      have hi2 : (lvs (fiR r) e).length ≤ i := List.drop_eq_nil_iff.mp ht
      refine rX11_gets_11 X w0 m hS _ o _ _ ?_
      rw [hL.1, nI_leI (by omega) (by omega)]
      exact ⟨fun _ => ⟨hF, hG2⟩, fun q => absurd hi2 q⟩
    | cons y t ih =>
      intro i o h' r2 ht hi hF hL hG2
      obtain ⟨hi2, hy, ht2⟩ := drop_cons ht
      have hyb := hat i hi2
      rw [hy] at hyb
      have hgy := hG2 y hyb.1 hyb.2.1
      have hvi : vp_in (nI i) 301 := inN (by omega) (by decide)
      have hvy : vp_in (nI y) 301 := inN (by omega) (by decide)
      refine rX11_gets_11 X w0 m hS _ o _ _ ?_
      rw [hL.1, nI_leI (by omega) (by omega), nI_clamp (show i < 2 ^ 31 by omega), hL.2 i hi2, hy, nI_clamp (show y < 2 ^ 31 by omega), hgy.1, hgy.2.1, nI_1]
      refine ⟨fun q => absurd hi2 (by omega), fun _ => ⟨hvi, hvy, hvi, hvy, hvi, hvy, hvy, ?_⟩⟩
      rintro r9 rfl
      exact ih (i + 1) _ _ _ ht2 (by omega) (hF.uJ y _) hL (hG2.up y _)
  exact key _ 0 a h _ rfl (Nat.zero_le _) g0 le0' hG'
theorem s_gives (hS : Sh w0 m) (hI : RI r) {r1 : Rs} (hp : Pe r r1) (hG : Go r d h c r1) {e : Nat} (e1 : 1 ≤ e) (e2 : e ≤ nE r) (a : Int64) : CM X w0 m bX11_gives mX11_gives [vI (nI e), vJ a] r1 (pV fun r2 => Fg 59 r1 r2 ∧ Go r d (givL (lvs (fiR r) e).reverse a h) c r2) := by
  have hN := hI.1.2.1.2
  obtain ⟨el, hl, hat⟩ := le_at hp hI e1 e2
  have hI1 := RI_mv hp hI
  refine pX11_gives X w0 m hS _ _ a r1 ((s_leavesOf hS r1 hI1.1 hI1.2.2.2.1 e e1 (by rw [hp.nn.2.1]; exact e2)).V ?_)
  rintro r2 rfl
  obtain ⟨g0, le0⟩ := fg_setL 59 r1 e (by rw [el]; omega)
  have le0' : Le r e (setL r1 e) := by unfold Le at *; rw [el] at le0; exact le0
  have hG' : Go r d h c (setL r1 e) := fun y y1 y2 => by rw [sL_J, g0.2.2.1 61 (by decide)]; exact hG y y1 y2
  have key : ∀ (n : Nat) (o : Int64) (h' : Nat → Int64) (r2 : Rs), n ≤ (lvs (fiR r) e).length → Fg 59 r1 r2 → Le r e r2 → Go r d h' c r2 → iX11_gives_16 X w0 m (fun r2 => Fg 59 r1 r2 ∧ Go r d (givL ((lvs (fiR r) e).take n).reverse o h') c r2) o (nI n - 1) r2 := by
    intro n
    induction n with
    | zero =>
      intro o h' r2 hn hF hL hG2
      refine rX11_gives_16 X w0 m hS _ o _ _ ⟨fun _ => ⟨hF, by simpa [givL] using hG2⟩, fun q => absurd (by decide) q⟩
    | succ n ih =>
      intro o h' r2 hn hF hL hG2
      have hyb := hat n (by omega)
      have et : ((lvs (fiR r) e).take (n + 1)).reverse = (lvs (fiR r) e).getD n 0 :: ((lvs (fiR r) e).take n).reverse := by
        have hn' : n < (lvs (fiR r) e).length := by omega
        rw [List.take_succ, List.reverse_append]
        simp [List.getD, hn']
      generalize hyy : (lvs (fiR r) e).getD n 0 = y at *
      have hgy := hG2 y hyb.1 hyb.2.1
      have hvi : vp_in (nI n) 301 := inN (by omega) (by decide)
      have hvy : vp_in (nI y) 301 := inN (by omega) (by decide)
      refine rX11_gives_16 X w0 m hS _ o _ _ ?_
      rw [nI_pred, nI_clamp (show n < 2 ^ 31 by omega), hL.2 n (by omega), hyy, nI_clamp (show y < 2 ^ 31 by omega), hgy.2.1, et]
      refine ⟨fun q => ?_, fun _ => ⟨hvi, hvy, hvi, hvy, hvy, ?_⟩⟩
      · have := (nI_ltI (a := n) (b := 0) (by omega) (by omega)).mp q; omega
      rintro r7 rfl
      rw [← Int32.sub_eq_add_neg]
      exact ih _ _ _ (by omega) (hF.uJ y _) hL (hG2.up y _)
  have := key (lvs (fiR r) e).length a h _ (Nat.le_refl _) g0 le0' hG'
  rw [List.take_length] at this
  rw [le0'.1]
  exact this
theorem s_payLoop (hS : Sh w0 m) (hI : RI r) (hp : p < 60) (A : Int64 → Rs → Prop) : ∀ (T : List Nat) (i : Nat) (s : (Nat → Int64) × Int64) (r1 : Rs), (PLs r (sS r 39) (sS r 39) p f).drop i = T → i ≤ (PLs r (sS r 39) (sS r 39) p f).length → Os r p f r1 → Go r (dS r p f) s.1 c r1 → HB r p f s.1 → 0 ≤ s.2.toInt → s.2.toInt ≤ 999999999999 →
    (∀ r2, Os r p f r2 → Go r (dS r p f) (T.foldl (payS r (dS r p f)) s).1 c r2 → HB r p f (T.foldl (payS r (dS r p f)) s).1 → iX11_give_124 X w0 m A (nI f) (nI p) (T.foldl (payS r (dS r p f)) s).2 1 r2) → iX11_give_24 X w0 m A (nI f) (nI p) s.2 (nI i) r1 := by
  have hN := hI.1.2.1.2
  have hlen := PLs_len (r := r) (dy := sS r 39) (as := sS r 39) (p := p) (f := f) hI
  intro T
  induction T with
  | nil =>
    intro i s r1 ht hi hO hG hB l0 l1 hh
    have hi2 : (PLs r (sS r 39) (sS r 39) p f).length ≤ i := List.drop_eq_nil_iff.mp ht
    refine rX11_give_24 X w0 m hS _ _ _ _ _ r1 ?_
    rw [hO.1.2.1, nI_leI (by omega) (by omega)]
    exact ⟨fun _ => hh r1 hO hG hB, fun q => absurd hi2 q⟩
  | cons w T ih =>
    intro i s r1 ht hi hO hG hB l0 l1 hh
    obtain ⟨hi2, hw, ht2⟩ := drop_cons ht
    have hpl := hO.1.2.2 i hi2
    rw [hw] at hpl
    have hwm : w ∈ PLs r (sS r 39) (sS r 39) p f := by rw [← hw]; simp [List.getD, hi2]
    have hwm' := PLs_mem.mp hwm
    have hv := pl_vW hI hwm'.1 hwm'.2
    obtain ⟨o1, o2, o3, o4⟩ := own_in hI hv
    have hko : inR r p f (own r w) := ((ordS_ok hI).2 _).mpr (OLs_mem.mpr ⟨w, hwm'.1, hwm'.2, rfl⟩)
    have hvi : vp_in (nI i) 602 := inN (by omega) (by decide)
    have hw2 := hv.2.1
    obtain ⟨q1, q2, q3, q4, q5⟩ := pay_eq hI hB l0 l1 hv hko
    rw [List.foldl_cons] at hh
    refine rX11_give_24 X w0 m hS _ _ _ _ _ r1 ?_
    rw [hO.1.2.1, nI_leI (by omega) (by omega), nI_clamp (show i < 2 ^ 31 by omega), hpl.1]
    refine ⟨fun q => absurd hi2 (by omega), fun _ => ⟨hvi, (s_dueIn hS hI hO.1.1.1 hG o1 o2).J ?_⟩⟩
    rintro v r2 ⟨rfl, g1, G1⟩
    have hO2 := hO.fg g1 rfl
    refine (s_gotBy hS hI hO2.1.1.1 G1 o1 o2).J ?_
    rintro v r3 ⟨rfl, g2, G2⟩
    have hO3 := hO2.fg g2 rfl
    have hpl3 := hO3.1.2.2 i hi2
    rw [hw] at hpl3
    rw [hpl3.2, hO3.1.1.1.2.2.1 25 rfl, hO3.1.1.1.2.2.2 8 rfl, nI_clamp (show own r w < 2 ^ 31 by omega)]
    have fin : ∀ s0 : Int64, s0 = (if rI r 3 w = 6 then mn (rJ r 8 w) (sumF (dS r p f) 0 (lvs (fiR r) (own r w)) - sumF s.1 0 (lvs (fiR r) (own r w))) else sumF (dS r p f) 0 (lvs (fiR r) (own r w)) - sumF s.1 0 (lvs (fiR r) (own r w))) → iX11_give_89 X w0 m A (nI f) (nI p) s.2 (nI i) (nI (own r w)) s0 r3 := by
      rintro s0 rfl
      refine rX11_give_89 X w0 m hS _ _ _ _ _ _ _ r3 ?_
      rw [mn_if, nI_1]
      refine (s_gets hS hI hO3.1.1.1 G2 o1 o2 _).V ?_
      rintro r4 ⟨g3, G3⟩
      rw [q1] at G3
      rw [q2]
      exact ih (i + 1) (payS r (dS r p f) (s.1, s.2) w) r4 ht2 (by omega) (hO3.fg g3 rfl) G3 q3 q4 q5 hh
    refine ⟨hvi, fun z => ?_, fun z => ⟨inN (by omega) (by decide), ?_⟩⟩
    · rw [bI_0] at z
      have h6 : rI r 3 w ≠ 6 := by simpa using z
      exact fin _ (by rw [if_neg h6])
    · rw [bI_n] at z
      have h6 : rI r 3 w = 6 := by simpa using z
      rw [o3 h6, nI_clamp (show w < 2 ^ 31 by omega)]
      exact ⟨inN (by omega) (by decide), fin _ (by rw [if_pos h6]; rfl)⟩
theorem s_gwLoop (hS : Sh w0 m) (hI : RI r) (hp : p < 60) (hf : f < 40) (left : Int64) (A : Int64 → Rs → Prop) : ∀ (n q : Nat) (hh : Nat → Int64) (r1 : Rs), q + n = nP r + 1 → 1 ≤ q → Os r p f r1 → Go r (dS r p f) hh c r1 →
    (∀ r2, Os r p f r2 → Go r (dS r p f) ((List.range' q n).foldl (gwI r (dS r p f) p f) hh) c r2 → iX11_give_261 X w0 m A left 1 r2) → iX11_give_124 X w0 m A (nI f) (nI p) left (nI q) r1 := by
  have hN := hI.1.2.1.2
  have hN2 := hI.1.2.2.2
  intro n
  induction n with
  | zero =>
    intro q hh r1 hq h1 hO hG h'
    refine rX11_give_124 X w0 m hS _ _ _ _ _ r1 ⟨fun _ => h' r1 hO hG, fun z => ?_⟩
    rw [hO.1.1.1.1 38 rfl, hI.1.2.2.1] at z
    exact absurd (nI_lt (show nP r < q by omega) (by omega)) z
  | succ n ih =>
    intro q hh r1 hq h1 hO hG h'
    have hm : q ∈ pos r := pos_mem.mpr ⟨h1, by omega⟩
    have hP := hO.1.1.1
    obtain ⟨a1, b1, v1, v2, ea, eb, hq1⟩ := post_r hI hm
    have hpq := hI.2.2.2.2.1 q h1 (by omega)
    have hvq : vp_in (nI q) 101 := inN hq1 (by decide)
    have hfo : foR r (ix r 31 q) < 40 := by have := (hI.2.2.2.1 _ hpq.2.1 hpq.2.2.1).2.2.2.1.1; have := hI.1.1.2; omega
    have hf4 : rI r 4 (rI r 31 q).toNatClampNeg = nI (foR r (ix r 31 q)) := (hI.2.2.2.1 _ hpq.2.1 hpq.2.2.1).1.1
    rw [List.range'_succ, List.foldl_cons] at h'
    have skip : cntP r (sS r 39) (sS r 39) p f q = false → ∀ r2, Os r p f r2 → Go r (dS r p f) hh c r2 → iX11_give_124 X w0 m A (nI f) (nI p) left (nI (q + 1)) r2 := fun e r2 g1 g2 => ih (q + 1) hh r2 (by omega) (by omega) g1 g2 (by
      have : gwI r (dS r p f) p f hh q = hh := by unfold gwI; rw [if_neg (by rw [e]; decide)]
      rw [this] at h'; exact h')
    refine rX11_give_124 X w0 m hS _ _ _ _ _ r1 ⟨fun z => ?_, fun _ => ?_⟩
    · rw [hP.1 38 rfl, hI.1.2.2.1] at z
      have := (nI_ltI (by omega) (by omega)).mp z; omega
    rw [nI_clamp (show q < 2 ^ 31 by omega), hP.2.2.1 31 rfl, hP.2.2.1 4 rfl, hf4, nI_1, nI_eq (by omega) (by omega)]
    refine ⟨hvq, v1, fun z => skip (by unfold cntP; simp [z]) r1 hO hG, fun hfz => (s_isPosted hS hI hp hO.1.1 hm).I ?_⟩
    rintro u r2 ⟨rfl, rfl⟩
    have hcp : cntP r (sS r 39) (sS r 39) p f q = (cntB (sS r 39) (sS r 39) (rI r 34 q) (rI r 35 q) && !(cntB (sS r 39) (sS r 39) (rI r 36 q) (rI r 37 q)) && liesB r (sS r 39) (sS r 39) (ix r 31 q) p && liesB r (sS r 39) (sS r 39) (ix r 32 q) p) := by
      unfold cntP; simp [hfz]
    rw [← hcp, hP.2.2.1 31 rfl, hP.2.2.1 32 rfl, hpq.1, hpq.2.2.2.1]
    refine ⟨fun z => ⟨hvq, hvq, (s_gotBy hS hI hP hG hpq.2.1 hpq.2.2.1).J ?_⟩, fun z => skip (by rw [bI_0] at z; exact z) r2 hO hG⟩
    rw [bI_n] at z
    rintro v r3 ⟨rfl, g1, G1⟩
    have O1 := hO.fg g1 rfl
    refine ⟨hvq, (s_dueIn hS hI O1.1.1.1 G1 hpq.2.2.2.2.1 hpq.2.2.2.2.2).J ?_⟩
    rintro v r4 ⟨rfl, g2, G2⟩
    have O2 := O1.fg g2 rfl
    refine (s_gotBy hS hI O2.1.1.1 G2 hpq.2.2.2.2.1 hpq.2.2.2.2.2).J ?_
    rintro v r5 ⟨rfl, g3, G3⟩
    have O3 := O2.fg g3 rfl
    rw [O1.1.1.1.2.2.2 33 rfl]
    have ex : (if (if sumF (dS r p f) 0 (lvs (fiR r) (ix r 32 q)) < rJ r 33 q then sumF (dS r p f) 0 (lvs (fiR r) (ix r 32 q)) else rJ r 33 q) < sumF hh 0 (lvs (fiR r) (ix r 31 q)) then (if sumF (dS r p f) 0 (lvs (fiR r) (ix r 32 q)) < rJ r 33 q then sumF (dS r p f) 0 (lvs (fiR r) (ix r 32 q)) else rJ r 33 q) else sumF hh 0 (lvs (fiR r) (ix r 31 q))) = gwX r (dS r p f) hh q := by
      rw [mn_if, mn_if]
      unfold gwX
      exact mn_sw _ _ _
    have ey : (if sumF hh 0 (lvs (fiR r) (ix r 32 q)) < gwX r (dS r p f) hh q then sumF hh 0 (lvs (fiR r) (ix r 32 q)) else gwX r (dS r p f) hh q) = gwY r (dS r p f) hh q := rfl
    rw [ex, ey]
    refine (s_gives hS hI O3.1.1.1 G3 hpq.2.1 hpq.2.2.1 _).V ?_
    rintro r6 ⟨g4, G4⟩
    have O4 := O3.fg g4 rfl
    refine (s_gives hS hI O4.1.1.1 G4 hpq.2.2.2.2.1 hpq.2.2.2.2.2 _).V ?_
    rintro r7 ⟨g5, G5⟩
    have O5 := O4.fg g5 rfl
    refine (s_gets hS hI O5.1.1.1 G5 hpq.2.2.2.2.1 hpq.2.2.2.2.2 _).V ?_
    rintro r8 ⟨g6, G6⟩
    have O6 := O5.fg g6 rfl
    refine (s_gets hS hI O6.1.1.1 G6 hpq.2.1 hpq.2.2.1 _).V ?_
    rintro r9 ⟨g7, G7⟩
    have e : gwI r (dS r p f) p f hh q = gwS r (dS r p f) hh q := by unfold gwI; rw [if_pos z]
    rw [e] at h'
    exact ih (q + 1) _ r9 (by omega) (by omega) (O6.fg g7 rfl) G7 h'
theorem RI_sh (hI : RI r) (S : Nat → Int64) : RI (shS r S) := by
  refine ⟨hI.1, hI.2.1, ⟨hI.2.2.1.1, fun e he => ?_, hI.2.2.1.2.2⟩, hI.2.2.2⟩
  have he' : nE r < e := he
  have h := hI.2.2.1.2.1 e he'
  refine ⟨h.1, h.2.1, h.2.2.1, h.2.2.2.1, ?_, h.2.2.2.2.2⟩
  show (if 62 = 62 ∧ 1 ≤ e ∧ e ≤ nE r then S e else rJ r 62 e) = 0
  rw [if_neg (fun q => by omega)]; exact h.2.2.2.2.1
theorem pe_shup {S : Nat → Int64} {r1 : Rs} (h : Pe (shS r S) r1) {e : Nat} (e1 : 1 ≤ e) (e2 : e ≤ nE r) (v : Int64) : Pe (shS r (upJ S e v)) (uJ r1 62 e v) := by
  rw [← shS_up r S e v e1 e2]; exact pe_cJ h 62 e v
/-- the reference's end: the shares, and what the owner has -/
theorem s_shEnd (hS : Sh w0 m) (hI : RI r) (S : Nat → Int64) (left : Int64) {O : List Nat} {mv : Nat → Int32} (A : Int64 → Rs → Prop) (hA : ∀ r2, Pe (uO (shS r S) left) r2 → Go r d h c r2 → OrF r O mv r2 → A left r2) : ∀ (n e : Nat) (r1 : Rs), e + n = 301 → nE r < e → Pe (shS r S) r1 → Go r d h c r1 → OrF r O mv r1 → iX11_give_297 X w0 m A left (nI e) r1 := by
  intro n
  induction n with
  | zero =>
    intro e r1 he hn hP hG hO
    have : e = 301 := by omega
    subst this
    refine rX11_give_297 X w0 m hS _ _ _ r1 ⟨fun _ => ?_, fun z => absurd (by decide) z⟩
    rintro r2 rfl
    exact hA _ ⟨hP.1, rfl, hP.2.2.1, hP.2.2.2⟩ hG hO
  | succ n ih =>
    intro e r1 he hn hP hG hO
    refine rX11_give_297 X w0 m hS _ _ _ r1 ⟨fun z => ?_, fun _ => ?_⟩
    · have := (nI_leI (a := 301) (b := e) (by omega) (by omega)).mp z; omega
    rw [nI_clamp (show e < 2 ^ 31 by omega), nI_1]
    refine ⟨inN (by omega) (by decide), ?_⟩
    rintro r5 rfl
    have hz : rJ (shS r S) 62 e = 0 := by
      show (if 62 = 62 ∧ 1 ≤ e ∧ e ≤ nE r then S e else rJ r 62 e) = 0
      rw [if_neg (fun q => by omega)]; exact (hI.2.2.1.2.1 e hn).2.2.2.2.1
    refine ih (e + 1) _ (by omega) (by omega) ⟨hP.1, hP.2.1, hP.2.2.1, fun k hk => ?_⟩ (fun y y1 y2 => ?_) hO
    · funext j
      rw [(R_uJ r1 62 e 0).2.2.2, ← hP.2.2.2 k hk]
      by_cases hj : k = 62 ∧ j = e
      · rw [if_pos hj, hj.1, hj.2, hP.2.2.2 62 rfl]; exact hz.symm
      · rw [if_neg hj]
    · have hy := hG y y1 y2
      have u60 : rJ (uJ r1 62 e 0) 60 y = rJ r1 60 y := by simp [R_uJ]
      have u59 : rJ (uJ r1 62 e 0) 59 y = rJ r1 59 y := by simp [R_uJ]
      rw [u60, u59]; exact hy
theorem s_shLoop (hS : Sh w0 m) (hI : RI r) (left : Int64) {O : List Nat} {mv : Nat → Int32} (A : Int64 → Rs → Prop) (hA : ∀ r2, Pe (uO (shS r (fun e => sumF h 0 (lvs (fiR r) e))) left) r2 → Go r d h c r2 → OrF r O mv r2 → A left r2) : ∀ (n e : Nat) (S : Nat → Int64) (r1 : Rs), e + n = nE r + 1 → 1 ≤ e → (∀ t, 1 ≤ t → t < e → S t = sumF h 0 (lvs (fiR r) t)) → Pe (shS r S) r1 → Go r d h c r1 → OrF r O mv r1 → iX11_give_261 X w0 m A left (nI e) r1 := by
  have hN := hI.1.2.1.2
  intro n
  induction n with
  | zero =>
    intro e S r1 he h1 hSe hP hG hO
    refine rX11_give_261 X w0 m hS _ _ _ r1 ⟨fun _ => ?_, fun z => ?_⟩
    · have e30 : sS r1 30 + 1 = nI (nE r + 1) := by
        rw [hP.1 30 rfl]
        show sS r 30 + 1 = _
        rw [hI.1.2.1.1]; exact nI_1 _
      rw [e30]
      refine s_shEnd hS hI S left A (fun r2 a b c => hA r2 ?_ b c) (300 - nE r) (nE r + 1) r1 (by omega) (by omega) hP hG hO
      rw [shS_eq (T := S) (fun t t1 t2 => (hSe t t1 (by omega)).symm)]; exact a
    · rw [hP.1 30 rfl] at z
      have z' : ¬ sS r 30 < nI e := z
      rw [hI.1.2.1.1] at z'
      exact absurd (nI_lt (show nE r < e by omega) (by omega)) z'
  | succ n ih =>
    intro e S r1 he h1 hSe hP hG hO
    have hIs := RI_sh hI S
    refine rX11_give_261 X w0 m hS _ _ _ r1 ⟨fun z => ?_, fun _ => ?_⟩
    · rw [hP.1 30 rfl] at z
      have z' : sS r 30 < nI e := z
      rw [hI.1.2.1.1] at z'
      have := (nI_ltI (by omega) (by omega)).mp z'; omega
    refine (s_gotBy (r := shS r S) hS hIs hP hG h1 (show e ≤ nE r by omega)).J ?_
    rintro v r4 ⟨rfl, g1, G1⟩
    rw [nI_clamp (show e < 2 ^ 31 by omega), nI_1]
    refine ⟨inN (by omega) (by decide), ?_⟩
    rintro r6 rfl
    refine ih (e + 1) (upJ S e (sumF h 0 (lvs (fiR r) e))) _ (by omega) (by omega) (fun t t1 t2 => ?_) (pe_shup (fg_Pe g1 rfl hP) h1 (by omega) _) (fun y y1 y2 => ?_) ⟨?_, ?_, ?_⟩
    · unfold upJ
      by_cases ht : t = e
      · rw [if_pos ht, ht]
      · rw [if_neg ht]; exact hSe t t1 (by omega)
    · have hy := G1 y y1 y2
      have u60 : rJ (uJ r4 62 e (sumF h 0 (lvs (fiR r) e))) 60 y = rJ r4 60 y := by simp [R_uJ]
      have u59 : rJ (uJ r4 62 e (sumF h 0 (lvs (fiR r) e))) 59 y = rJ r4 59 y := by simp [R_uJ]
      have u61 : rI (uJ r4 62 e (sumF h 0 (lvs (fiR r) e))) 61 y = rI r4 61 y := rfl
      show rJ (uJ r4 62 e (sumF h 0 (lvs (fiR r) e))) 60 y = _ ∧ rJ (uJ r4 62 e (sumF h 0 (lvs (fiR r) e))) 59 y = _ ∧ _
      rw [u60, u59]; exact hy
    · show sS r4 58 = _; rw [g1.1 58 (by decide)]; exact hO.1
    · intro j hj; show rI r4 55 j = _; rw [g1.2.2.1 55 (by decide)]; exact hO.2.1 j hj
    · intro o ho; show rI r4 56 o = _; rw [g1.2.2.1 56 (by decide)]; exact hO.2.2 o ho
theorem s_give (hS : Sh w0 m) (hI : RI r) (hp : p < 60) (hf : f < 40) (a3 a5 : Int64) (l0 : 0 ≤ (a3 - a5).toInt) (l1 : (a3 - a5).toInt ≤ 999999999999) : CM X w0 m bX11_give mX11_give [vI (nI f), vI (nI p), vJ a3, vJ a5] r (pJ fun v r1 => v = (payA r p f (a3 - a5)).2 ∧ Pe (uO (shS r (fun e => sumF (hasA r p f (a3 - a5)) 0 (lvs (fiR r) e))) (payA r p f (a3 - a5)).2) r1 ∧ Go r (dS r p f) (hasA r p f (a3 - a5)) (fun y => rkd r p f y && cB r p y) r1 ∧ OrF r (ordS r (sS r 39) (sS r 39) p f).1 (ordS r (sS r 39) (sS r 39) p f).2 r1) := by
  refine pX11_give X w0 m hS _ _ _ a3 a5 r ((s_now hS r).V ?_)
  rintro r2 rfl
  refine (s_orderOn hS hI hp hf (now_viw r)).V ?_
  rintro r3 hO
  refine (s_prepare hS hI hp (f := f) hO).V ?_
  rintro r4 ⟨hO4, hG4⟩
  refine s_payLoop (c := fun y => rkd r p f y && cB r p y) hS hI hp _ _ 0 (fun _ => 0, a3 - a5) r4 rfl (Nat.zero_le _) hO4 hG4 (HB_0 hI) l0 l1 (fun r5 hO5 hG5 _ => ?_)
  refine s_gwLoop (c := fun y => rkd r p f y && cB r p y) hS hI hp hf _ _ (nP r) 1 _ r5 (by omega) (by omega) hO5 hG5 (fun r6 hO6 hG6 => ?_)
  refine s_shLoop (d := dS r p f) (h := hasA r p f (a3 - a5)) (c := fun y => rkd r p f y && cB r p y) hS hI _ _ (fun r7 h1 h2 h3 => ⟨rfl, h1, h2, h3⟩) (nE r) 1 (rJ r 62) r6 (by omega) (by omega) (fun t t1 t2 => by omega) (by rw [shS_id]; exact hO6.1.1.1) hG6 hO6.2
end RT
