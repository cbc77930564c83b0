/-! ===== the order: the reference's posts, and its order whole ===== -/
section O7
variable {X : Cx} {w0 : Wd} {m : Nat} {r : Rs} {dy as : Int32} {p f : Nat}
theorem s_isPosted (hS : Sh w0 m) (hI : RI r) (hp : p < 60) {r1 : Rs} (hV : Viw r dy as r1) {q : Nat} (hq : q ∈ pos r) : CM X w0 m bX11_isPosted mX11_isPosted [vI (nI q), vI (nI p)] r1 (pI fun v r2 => v = bI (cntB dy as (rI r 34 q) (rI r 35 q) && !(cntB dy as (rI r 36 q) (rI r 37 q)) && liesB r dy as (ix r 31 q) p && liesB r dy as (ix r 32 q) p) ∧ r2 = r1) := by
  have hq' := pos_mem.mp hq
  have hN := hI.1.2.1.2
  have hN2 := hI.1.2.2.2
  have hpq := hI.2.2.2.2.1 q hq'.1 hq'.2
  have hvq : vp_in (nI q) 101 := inN (by omega) (by decide)
  have hI1 : RI r1 := RI_mv hV.1 hI
  have sl : ∀ e, 1 ≤ e → e ≤ nE r → CM X w0 m bX11_lies mX11_lies [vI (nI e), vI (nI p)] r1 (pI fun x r2 => x = bI (liesB r dy as e p) ∧ r2 = r1) := fun e a b => by
    have := s_lies (X := X) hS r1 hI1.1 hI1.2.2.2.1 e p hp a (by rw [hV.1.nn.2.1]; exact b)
    rw [hV.2.1, hV.2.2, hV.1.lies] at this
    exact this
  refine pX11_isPosted X w0 m hS _ (nI q) (nI p) r1 ?_
  rw [nI_clamp (show q < 2 ^ 31 by omega), hV.1.2.2.1 34 rfl, hV.1.2.2.1 35 rfl]
  refine ⟨hvq, hvq, (s_counts hS r1 _ _).I ?_⟩
  rintro u r2 ⟨rfl, rfl⟩
  rw [hV.2.1, hV.2.2, hV.1.2.2.1 36 rfl, hV.1.2.2.1 37 rfl]
  refine ⟨fun z => ⟨by rw [bI_0] at z; rw [z]; rfl, rfl⟩, fun z => ⟨hvq, hvq, (s_counts hS r2 _ _).I ?_⟩⟩
  rw [bI_n] at z
  rintro u r3 ⟨rfl, rfl⟩
  rw [hV.2.1, hV.2.2, hV.1.2.2.1 31 rfl, hpq.1]
  refine ⟨fun z2 => ⟨hvq, (sl _ hpq.2.1 hpq.2.2.1).I ?_⟩, fun z2 => ⟨by rw [bI_n] at z2; rw [z2]; simp [bI], rfl⟩⟩
  rw [bI_0] at z2
  rintro u r4 ⟨rfl, rfl⟩
  rw [hV.1.2.2.1 32 rfl, hpq.2.2.2.1]
  refine ⟨fun z3 => ⟨by rw [bI_0] at z3; rw [z3]; simp [bI], rfl⟩, fun z3 => ⟨hvq, (sl _ hpq.2.2.2.2.1 hpq.2.2.2.2.2).I ?_⟩⟩
  rw [bI_n] at z3
  rintro u r5 ⟨rfl, rfl⟩
  refine ⟨fun z4 => ⟨by rw [bI_0] at z4; rw [z4]; simp [bI], rfl⟩, fun z4 => ⟨by rw [bI_n] at z4; rw [z, z2, z3, z4]; rfl, rfl⟩⟩
theorem swp_rows {a b : Nat} {O : List Nat} (nd : O.Nodup) {i j k : Nat} (hi : i < O.length) (hj : j < O.length) (hk : k < O.length) (ha : O.getD i 0 = a) (hb : O.getD j 0 = b) : (O.map (swp a b)).getD k 0 = if k = j then a else if k = i then b else O.getD k 0 := by
  have e : (O.map (swp a b)).getD k 0 = swp a b (O.getD k 0) := by simp [List.getD, hk]
  rw [e]
  have inj : ∀ x y, x < O.length → y < O.length → O.getD x 0 = O.getD y 0 → x = y := fun x y hx hy h => by
    have h1 := idxR_at O 0 x nd hx
    have h2 := idxR_at O 0 y nd hy
    rw [h, h2] at h1
    simp only [List.getD] at h
    have := (List.getElem?_inj hx nd (j := y)).mp (by
      rw [List.getElem?_eq_getElem hx, List.getElem?_eq_getElem hy] at h ⊢
      simpa using h)
    exact this
  unfold swp
  by_cases h1 : k = i
  · by_cases h2 : k = j
    · rw [if_pos (by rw [h1]; exact ha), if_pos h2]
      rw [← hb, ← ha, ← h1, ← h2]
    · rw [if_pos (by rw [h1]; exact ha), if_neg h2, if_pos h1]
  · have n1 : O.getD k 0 ≠ a := fun z => h1 (inj k i hk hi (by rw [z, ha]))
    by_cases h2 : k = j
    · rw [if_neg n1, if_pos (by rw [h2]; exact hb), if_pos h2]
    · have n2 : O.getD k 0 ≠ b := fun z => h2 (inj k j hk hj (by rw [z, hb]))
      rw [if_neg n1, if_neg n2, if_neg h2, if_neg h1]
theorem s_ordPosts (hS : Sh w0 m) (hI : RI r) (hp : p < 60) (hf : f < 40) (L : List Nat) (A : Rs → Prop) : ∀ (n q : Nat) (s : List Nat × (Nat → Int32)) (r1 : Rs), q + n = nP r + 1 → 1 ≤ q → OkO r dy as p f s.1 → PlR r dy as L r1 → OrF r s.1 s.2 r1 →
    (∀ r2, PlR r dy as L r2 → OrF r ((List.range' q n).foldl (pstp r dy as p f) s).1 ((List.range' q n).foldl (pstp r dy as p f) s).2 r2 → A r2) → iX11_orderOn_80 X w0 m A (nI f) (nI p) (nI q) r1 := by
  have hN := hI.1.2.1.2
  have hN2 := hI.1.2.2.2
  intro n
  induction n with
  | zero =>
    intro q s r1 hq h1 hOk hP hO h
    refine rX11_orderOn_80 X w0 m hS _ _ _ _ r1 ⟨fun _ => h r1 hP hO, fun z => ?_⟩
    rw [hP.1.1.1 38 rfl, hI.1.2.2.1] at z
    exact absurd (nI_lt (show nP r < q by omega) (by omega)) z
  | succ n ih =>
    intro q s r1 hq h1 hOk hP hO h
    have hm : q ∈ pos r := pos_mem.mpr ⟨h1, by omega⟩
    have hPe := hP.1.1
    obtain ⟨a1, b1, v1, v2, ea, eb, hq1⟩ := post_r hI hm
    have hpq := hI.2.2.2.2.1 q h1 (by omega)
    have hvq : vp_in (nI q) 101 := inN hq1 (by decide)
    obtain ⟨hin, hlen⟩ := hOk.in hI
    have hfo : foR r (ix r 31 q) < 40 := by have := (hI.2.2.2.1 _ hpq.2.1 hpq.2.2.1).2.2.2.1.1; have := hI.1.1.2; omega
    have hf4 : rI r 4 (rI r 31 q).toNatClampNeg = nI (foR r (ix r 31 q)) := (hI.2.2.2.1 _ hpq.2.1 hpq.2.2.1).1.1
    rw [List.range'_succ, List.foldl_cons] at h
    have skip : pstp r dy as p f s q = s → ∀ r2, PlR r dy as L r2 → OrF r s.1 s.2 r2 → iX11_orderOn_80 X w0 m A (nI f) (nI p) (nI (q + 1)) r2 := fun e r2 g1 g2 => ih (q + 1) s r2 (by omega) (by omega) hOk g1 g2 (by rw [e] at h; exact h)
    refine rX11_orderOn_80 X w0 m hS _ _ _ _ r1 ⟨fun z => ?_, fun _ => ?_⟩
    · rw [hPe.1 38 rfl, hI.1.2.2.1] at z
      have := (nI_ltI (by omega) (by omega)).mp z; omega
    rw [nI_clamp (show q < 2 ^ 31 by omega), hPe.2.2.1 31 rfl, hPe.2.2.1 4 rfl, hf4, nI_1, nI_eq (by omega) (by omega)]
    refine ⟨hvq, v1, fun z => skip ?_ r1 hP hO, fun hfz => (s_isPosted hS hI hp hP.1 hm).I ?_⟩
    · unfold pstp; rw [if_neg (fun y => by have := y.1; unfold cntP at this; simp [z] at this)]
    rintro u r2 ⟨rfl, rfl⟩
    have hcp : cntP r dy as p f q = (cntB dy as (rI r 34 q) (rI r 35 q) && !(cntB dy as (rI r 36 q) (rI r 37 q)) && liesB r dy as (ix r 31 q) p && liesB r dy as (ix r 32 q) p) := by
      unfold cntP; simp [hfz]
    rw [← hcp, hPe.2.2.1 31 rfl, hPe.2.2.1 5 rfl, ea]
    refine ⟨fun z => ⟨hvq, v1, (s_standsAt hS hO (by omega) (fun o ho => by have := hin o ho; omega) (gA r q) (by omega)).I ?_⟩, fun z => skip ?_ r2 hP hO⟩
    · rw [bI_n] at z
      rintro u r3 ⟨rfl, rfl⟩
      rw [hPe.2.2.1 32 rfl, hPe.2.2.1 5 rfl, eb]
      refine ⟨hvq, v2, (s_standsAt hS hO (by omega) (fun o ho => by have := hin o ho; omega) (gB r q) (by omega)).I ?_⟩
      rintro u r4 ⟨rfl, rfl⟩
      have hmem := cntP_in hI hm z
      obtain ⟨i, i1, i2, i3⟩ := idxR_in s.1 0 ((hOk.2 _).mpr hmem.1)
      obtain ⟨j, j1, j2, j3⟩ := idxR_in s.1 0 ((hOk.2 _).mpr hmem.2)
      have ei : idx s.1 (gA r q) = nI i := by unfold idx; rw [i2, Nat.zero_add]
      have ej : idx s.1 (gB r q) = nI j := by unfold idx; rw [j2, Nat.zero_add]
      rw [ei, ej]
      refine ⟨fun y => skip ?_ r4 hP hO, fun y => ?_⟩
      · unfold pstp; rw [if_neg (fun w => by
          have := w.2; rw [ei, ej] at this
          rw [nI_leI (by omega) (by omega)] at y
          rw [nI_ltI (by omega) (by omega)] at this; omega)]
      · have hlt : i < j := by rw [nI_leI (by omega) (by omega)] at y; omega
        have hst : pstp r dy as p f s q = (s.1.map (swp (gA r q) (gB r q)), fun e => if e = gA r q ∨ e = gB r q then s.2 e + 1 else s.2 e) := by
          unfold pstp; rw [if_pos ⟨z, by rw [ei, ej]; exact nI_lt hlt (by omega)⟩]
        have hab : gA r q ≠ gB r q := fun e => by rw [e, ej] at ei; have := (nI_eq (by omega) (by omega)).mp ei; omega
        have hvi : vp_in (nI i) 301 := inN (by omega) (by decide)
        have hvj : vp_in (nI j) 301 := inN (by omega) (by decide)
        rw [nI_clamp (show i < 2 ^ 31 by omega), nI_clamp (show j < 2 ^ 31 by omega), hO.2.1 i i1, hO.2.1 j j1, i3, j3]
        refine ⟨hvi, hvj, hvi, ?_⟩
        rintro r23 rfl
        refine ⟨hvj, ?_⟩
        rintro r26 rfl
        have ne : ¬ i = j := by omega
        have e1 : rI (uI (uI r4 55 i (nI (gB r q))) 55 j (nI (gA r q))) 55 i = nI (gB r q) := by simp [R_uI, ne]
        rw [e1, nI_clamp (show gB r q < 2 ^ 31 by omega)]
        refine ⟨hvi, inN (by omega) (by decide), inN (by omega) (by decide), ?_⟩
        rintro r31 rfl
        have e2 : ∀ v, rI (uI (uI (uI r4 55 i (nI (gB r q))) 55 j (nI (gA r q))) 56 (gB r q) v) 55 j = nI (gA r q) := fun v => by simp [R_uI]
        rw [e2, nI_clamp (show gA r q < 2 ^ 31 by omega)]
        refine ⟨hvj, inN (by omega) (by decide), inN (by omega) (by decide), ?_⟩
        rintro r36 rfl
        have m56 : ∀ o, o ∈ s.1 → rI r4 56 o = s.2 o := hO.2.2
        have ha0 := (hOk.2 _).mpr hmem.1
        have hb0 := (hOk.2 _).mpr hmem.2
        rw [hst] at h
        have hOk' := hOk.swp ha0 hb0
        refine ih (q + 1) _ _ (by omega) (by omega) hOk' ⟨⟨(((hPe.uI 55 _ _ rfl).uI 55 _ _ rfl).uI 56 _ _ rfl).uI 56 _ _ rfl, hP.1.2.1, hP.1.2.2⟩, hP.2.1, hP.2.2⟩ ⟨by rw [List.length_map]; exact hO.1, fun k hk => ?_, fun o ho => ?_⟩ h
        · rw [List.length_map] at hk
          rw [swp_rows hOk.1 i1 j1 hk i3 j3]
          simp only [R_uI]
          by_cases k1 : k = j
          · simp [k1]
          · by_cases k2 : k = i
            · simp [k2, ne]
            · simp [k1, k2]; exact hO.2.1 k hk
        · have ho' : o ∈ s.1 := (hOk.2 o).mpr ((hOk'.2 o).mp ho)
          simp only [R_uI]
          by_cases o1 : o = gA r q
          · subst o1; simp [hab]; rw [m56 _ ha0]
          · by_cases o2 : o = gB r q
            · subst o2; simp [o1]; rw [m56 _ hb0]
            · simp [o1, o2]; exact m56 o ho'
    · rw [bI_0] at z
      unfold pstp; rw [if_neg (fun y => by rw [z] at y; exact absurd y.1 (by decide))]
theorem PLs_len (hI : RI r) : (PLs r dy as p f).length ≤ nE r := by
  refine nodup_len _ (nE r) ?_ (fun w hw => ?_)
  · exact (PLs_srt f).imp (fun {a b} h e => by rw [e] at h; have := ahd_asym h; rw [h] at this; cases this)
  · have := chF_mem.mp (PLs_mem.mp hw).1
    exact ⟨this.1, this.2.1⟩
theorem s_orderOn (hS : Sh w0 m) (hI : RI r) (hp : p < 60) (hf : f < 40) {r1 : Rs} (hV : Viw r dy as r1) : CM X w0 m bX11_orderOn mX11_orderOn [vI (nI f), vI (nI p)] r1 (pV fun r2 => PlR r dy as (PLs r dy as p f) r2 ∧ OrF r (ordS r dy as p f).1 (ordS r dy as p f).2 r2) := by
  have hN := hI.1.2.1.2
  have hN2 := hI.1.2.2.2
  refine pX11_orderOn X w0 m hS _ _ _ r1 ((s_placesOn hS hI hp hf hV).V ?_)
  intro r3 hP
  rintro r4 rfl
  have hl := PLs_len (dy := dy) (as := as) (p := p) (f := f) hI
  refine s_ordLoop (X := X) hS hI (PLs r dy as p f) (by omega) (fun w hw => by have := PLs_mem.mp hw; exact pl_vW hI this.1 this.2) _ (fun r5 h5 h6 => ?_) (PLs r dy as p f) [] _ rfl ⟨⟨hP.1.1.uS 58 _ rfl, hP.1.2.1, hP.1.2.2⟩, hP.2.1, hP.2.2⟩ ⟨rfl, fun j hj => by simp at hj, fun o ho => by cases ho⟩
  exact s_ordPosts (X := X) hS hI hp hf _ _ (nP r) 1 (OLs r dy as p f, fun _ => 0) r5 (by omega) (by omega) OLs_ok h5 h6 (fun r6 h7 h8 => ⟨h7, h8⟩)
end O7
