/-! ===== the order: the reference's list ===== -/
section O4
variable {X : Cx} {w0 : Wd} {m : Nat} {r : Rs} {dy as : Int32} {p f : Nat}
/-- the places of what was entered before e -/
def PlI (r : Rs) (dy as : Int32) (p f : Nat) (e : Nat) (L : List Nat) : Prop := L.Pairwise (fun a b => ahd r dy as a b = true) ∧ (∀ w, w ∈ L ↔ (w ∈ chF r f ∧ plB r dy as p w = true ∧ own r w < e)) ∧ L.length + 2 ≤ 2 * e
theorem pl_vW (hI : RI r) {w : Nat} (h : w ∈ chF r f) (hp : plB r dy as p w = true) : vW r w := by
  have hm := chF_mem.mp h
  refine ⟨hm.1, hm.2.1, fun h6 h0 => ?_⟩
  unfold plB at hp
  rw [if_pos h6] at hp
  simp [h0] at hp
theorem rev_srt {L : List Nat} {R : Nat → Nat → Prop} (h : L.Pairwise R) : L.reverse.Pairwise (fun a b => R b a) := List.pairwise_reverse.mpr h
theorem ins_ok {v : Nat} {L : List Nat} (h : L.Pairwise (fun a b => ahd r dy as a b = true)) (hv : v ∉ L) : (insR r dy as v L.reverse).reverse.Pairwise (fun a b => ahd r dy as a b = true) ∧ (∀ w, w ∈ (insR r dy as v L.reverse).reverse ↔ w = v ∨ w ∈ L) ∧ (insR r dy as v L.reverse).reverse.length = L.length + 1 := by
  refine ⟨?_, fun w => ?_, by rw [List.length_reverse, insR_len, List.length_reverse]⟩
  · exact List.pairwise_reverse.mpr (insR_srt v L.reverse (rev_srt h) (fun z => hv (List.mem_reverse.mp z)))
  · rw [List.mem_reverse, insR_iff, List.mem_reverse]
theorem s_placesLoop (hS : Sh w0 m) (hI : RI r) (hp : p < 60) (hf : f < 40) (A : Rs → Prop) (h : ∀ r2, PlR r dy as (PLs r dy as p f) r2 → A r2) : ∀ (n e : Nat) (L : List Nat) (r1 : Rs), e + n = nE r + 1 → 1 ≤ e → PlI r dy as p f e L → PlR r dy as L r1 → iX11_placesOn_7 X w0 m A (nI f) (nI p) (nI e) r1 := by
  have hN := hI.1.2.1.2
  have hE := hI.2.2.2.1
  intro n
  induction n with
  | zero =>
    intro e L r1 he h1 hL hP
    refine rX11_placesOn_7 X w0 m hS _ _ _ _ r1 ⟨fun _ => h r1 ?_, fun z => ?_⟩
    · have : L = PLs r dy as p f := srt_uniq (fun a b hab hba => by rw [ahd_asym hab] at hba; cases hba) L _ hL.1 (PLs_srt f) (fun w => by
        rw [hL.2.1, PLs_mem]
        refine ⟨fun z => ⟨z.1, z.2.1⟩, fun z => ⟨z.1, z.2, ?_⟩⟩
        have := (own_in hI (pl_vW hI z.1 z.2)).2.1
        omega)
      rw [← this]; exact hP
    · rw [hP.1.1.1 30 rfl, hI.1.2.1.1] at z
      exact absurd (nI_lt (show nE r < e by omega) (by omega)) z
  | succ n ih =>
    intro e L r1 he h1 hL hP
    have e2 : e ≤ nE r := by omega
    have hEe := hE e h1 e2
    have hve : vp_in (nI e) 301 := inN (by omega) (by decide)
    have hPe := hP.1.1
    have hLv : ∀ w ∈ L, vW r w := fun w hw => by have := (hL.2.1 w).mp hw; exact pl_vW hI this.1 this.2.1
    -- nothing to place
    have none : (∀ w, w ∈ chF r f → plB r dy as p w = true → own r w ≠ e) → iX11_placesOn_7 X w0 m A (nI f) (nI p) (nI (e + 1)) r1 := fun hno => ih (e + 1) L r1 (by omega) (by omega) ⟨hL.1, fun w => by
      rw [hL.2.1]
      refine ⟨fun z => ⟨z.1, z.2.1, by omega⟩, fun z => ⟨z.1, z.2.1, ?_⟩⟩
      have := hno w z.1 z.2.1; omega, by have := hL.2.2; omega⟩ hP
    -- whose place is e's
    have own_e : ∀ w, w ∈ chF r f → plB r dy as p w = true → own r w = e → (w = e ∧ rI r 3 e ≠ 6) ∨ (rI r 3 w = 6 ∧ ix r 24 w = e ∧ ix r 25 e = w ∧ rI r 3 e ≠ 6) := fun w hw hpl ho => by
      by_cases h6 : rI r 3 w = 6
      · have hv := pl_vW hI hw hpl
        have h24 : ix r 24 w = e := by unfold own at ho; rw [if_pos h6] at ho; exact ho
        have hb := (hE w hv.1 hv.2.1).2.2.2.2.2.2.2.1 (hv.2.2 h6)
        have h25 : ix r 25 e = w := by rw [← h24]; exact hb.2.2.2
        refine Or.inr ⟨h6, h24, h25, fun z => ?_⟩
        have := (hEe.2.2.2.2.2.2.2.2 (by rw [h25]; have := hv.1; omega)).1
        exact this z
      · have : w = e := by unfold own at ho; rw [if_neg h6] at ho; exact ho
        rw [this] at h6
        exact Or.inl ⟨this, h6⟩
    refine rX11_placesOn_7 X w0 m hS _ _ _ _ r1 ⟨fun z => ?_, fun _ => ?_⟩
    · rw [hPe.1 30 rfl, hI.1.2.1.1] at z
      have := (nI_ltI (by omega) (by omega)).mp z; omega
    have hpe0 := hEe.2.2.1.1
    rw [nI_clamp (show e < 2 ^ 31 by omega), hPe.2.2.1 6 rfl, hPe.2.2.1 4 rfl, hPe.2.2.1 3 rfl, hEe.1.2.2.1, hEe.1.1, nI_1, nI_z (show paR r e < 2 ^ 31 by omega), nI_eq (show foR r e < 2 ^ 31 by have := hEe.2.2.2.1.1; have := hI.1.1.2; omega) (show f < 2 ^ 31 by omega)]
    refine ⟨hve, fun z => none (fun w hw hpl ho => ?_), fun hpa => ⟨hve, fun z => none (fun w hw hpl ho => ?_), fun hfo => ⟨hve, fun z => none (fun w hw hpl ho => ?_), fun h6 => ?_⟩⟩⟩
    · rcases own_e w hw hpl ho with y | y
      · rw [y.1] at hw; exact z (chF_mem.mp hw).2.2.1
      · exact z ((hEe.2.2.2.2.2.2.2.2 (by rw [y.2.2.1]; have := (chF_mem.mp hw).1; omega)).2.1)
    · rcases own_e w hw hpl ho with y | y
      · rw [y.1] at hw; exact z (chF_mem.mp hw).2.2.2
      · have hm := chF_mem.mp hw
        have hx := (hI.2.2.1.2.2.2.2.2 w hm.1 hm.2.1).1.1 (by rw [y.2.1]; omega)
        rw [y.2.1, hm.2.2.2] at hx
        exact z hx
    · rcases own_e w hw hpl ho with y | y
      · exact y.2 z
      · exact y.2.2.2 z
    have hch : e ∈ chF r f := chF_mem.mpr ⟨h1, e2, hpa, hfo⟩
    have hvWe : vW r e := ⟨h1, e2, fun z => absurd z h6⟩
    have hI1 : RI r1 := RI_mv hPe hI
    have s1 := s_lies (X := X) hS r1 hI1.1 hI1.2.2.2.1 e p hp h1 (by rw [hPe.nn.2.1]; exact e2)
    rw [hP.1.2.1, hP.1.2.2, hPe.lies] at s1
    refine s1.I ?_
    rintro u r2 ⟨rfl, rfl⟩
    have oe : own r e = e := (own_in hI hvWe).2.2.2 h6
    refine ⟨fun hl => ?_, fun hl => none (fun w hw hpl ho => ?_)⟩
    · rw [bI_n] at hl
      have hple : plB r dy as p e = true := by unfold plB; rw [if_neg h6]; exact hl
      have hnot : e ∉ L := fun z => by have := ((hL.2.1 e).mp z).2.2; omega
      obtain ⟨i1, i2, i3⟩ := ins_ok (v := e) hL.1 hnot
      have hst := s_stand (X := X) hS hI e hvWe L hLv (by have := hL.2.2; omega) hP
      have e6 : bI (decide (rI r 3 e = 6)) = 0 := by simp [h6, bI]
      rw [oe, e6] at hst
      refine hst.V ?_
      intro r3 hP3
      have hPe3 := hP3.1.1
      have e25 : ix r 25 e ≤ nE r := hEe.2.2.2.2.2.1
      rw [hPe3.2.2.1 25 rfl, hPe3.2.2.1 26 rfl, hPe3.2.2.1 27 rfl, hEe.1.2.2.2.2.2, nI_z (show ix r 25 e < 2 ^ 31 by omega)]
      -- the caution has no place
      have only : ¬ (ix r 25 e ≠ 0 ∧ plB r dy as p (ix r 25 e) = true) → ∀ r4, PlR r dy as (insR r dy as e L.reverse).reverse r4 → iX11_placesOn_7 X w0 m A (nI f) (nI p) (nI (e + 1)) r4 := fun hno r4 h4 => by
        refine ih (e + 1) _ r4 (by omega) (by omega) ⟨i1, fun w => ?_, by have := hL.2.2; omega⟩ h4
        rw [i2, hL.2.1]
        constructor
        · rintro (z | z)
          · rw [z]; exact ⟨hch, hple, by omega⟩
          · exact ⟨z.1, z.2.1, by omega⟩
        · intro z
          by_cases ho : own r w = e
          · rcases own_e w z.1 z.2.1 ho with y | y
            · exact Or.inl y.1
            · exact absurd ⟨by rw [y.2.2.1]; have := (chF_mem.mp z.1).1; omega, by rw [y.2.2.1]; exact z.2.1⟩ hno
          · exact Or.inr ⟨z.1, z.2.1, by omega⟩
      refine ⟨hve, fun h0 => only (fun z => z.1 h0) r3 hP3, fun h0 => ⟨hve, hve, (s_counts hS r3 _ _).I ?_⟩⟩
      rintro u r4 ⟨rfl, rfl⟩
      rw [hP3.1.2.1, hP3.1.2.2]
      have hc := hEe.2.2.2.2.2.2.2.2 h0
      have h24 : ix r 24 (ix r 25 e) = e := hc.2.2.2
      have hEc := hE (ix r 25 e) (by omega) e25
      have c6 : rI r 3 (ix r 25 e) = 6 := (hEc.2.2.2.2.2.2.2.1 (by rw [h24]; omega)).1
      have hplc : plB r dy as p (ix r 25 e) = (liesB r dy as (ix r 25 e) p && cntB dy as (rI r 26 e) (rI r 27 e) && liesB r dy as e p) := by
        unfold plB
        rw [if_pos c6, h24]
        have : decide (e = 0) = false := by simp; omega
        rw [this]; simp
      refine ⟨fun z => only (fun y => ?_) r4 hP3, fun z => ?_⟩
      · rw [bI_0] at z
        have := y.2
        rw [hplc, z] at this; simp at this
      · rw [bI_n] at z
        have hI4 : RI r4 := RI_mv hPe3 hI
        have s2 := s_lies (X := X) hS r4 hI4.1 hI4.2.2.2.1 (ix r 25 e) p hp (by omega) (by rw [hPe3.nn.2.1]; exact e25)
        rw [hP3.1.2.1, hP3.1.2.2, hPe3.lies] at s2
        refine s2.I ?_
        rintro u r5 ⟨rfl, rfl⟩
        refine ⟨fun z2 => only (fun y => ?_) r5 hP3, fun z2 => ?_⟩
        · rw [bI_0] at z2
          have := y.2
          rw [hplc, z2] at this; simp at this
        · rw [bI_n] at z2
          have hplc1 : plB r dy as p (ix r 25 e) = true := by rw [hplc, z, z2, hl]; rfl
          have hfc : foR r (ix r 25 e) = f := by
            have := (hI.2.2.1.2.2.2.2.2 (ix r 25 e) (by omega) e25).1.1 (by rw [h24]; omega)
            rw [h24, hfo] at this; exact this.symm
          have hchc : ix r 25 e ∈ chF r f := chF_mem.mpr ⟨by omega, e25, hc.2.2.1, hfc⟩
          have hvc : vW r (ix r 25 e) := pl_vW hI hchc hplc1
          have oc : own r (ix r 25 e) = e := by unfold own; rw [if_pos c6]; exact h24
          have hce : ix r 25 e ≠ e := fun z => h6 (by rw [← z]; exact c6)
          have hnot2 : ix r 25 e ∉ (insR r dy as e L.reverse).reverse := fun z => by
            rcases (i2 _).mp z with y | y
            · exact hce y
            · have := ((hL.2.1 _).mp y).2.2; omega
          obtain ⟨j1, j2, j3⟩ := ins_ok (v := ix r 25 e) i1 hnot2
          have hst2 := s_stand (X := X) hS hI (ix r 25 e) hvc _ (fun w hw => by
            rcases (i2 w).mp hw with y | y
            · rw [y]; exact hvWe
            · exact hLv w y) (by have := hL.2.2; omega) hP3
          have c61 : bI (decide (rI r 3 (ix r 25 e) = 6)) = 1 := by simp [c6, bI]
          rw [oc, c61] at hst2
          refine hst2.V ?_
          intro r6 hP6
          refine ih (e + 1) _ r6 (by omega) (by omega) ⟨j1, fun w => ?_, by have := hL.2.2; omega⟩ hP6
          rw [j2, i2, hL.2.1]
          constructor
          · rintro (y | y | y)
            · rw [y]; exact ⟨hchc, hplc1, by omega⟩
            · rw [y]; exact ⟨hch, hple, by omega⟩
            · exact ⟨y.1, y.2.1, by omega⟩
          · intro y
            by_cases ho : own r w = e
            · rcases own_e w y.1 y.2.1 ho with q | q
              · exact Or.inr (Or.inl q.1)
              · exact Or.inl q.2.2.1.symm
            · exact Or.inr (Or.inr ⟨y.1, y.2.1, by omega⟩)
    · rw [bI_0] at hl
      rcases own_e w hw hpl ho with y | y
      · have : liesB r dy as e p = true := by
          have := hpl
          rw [y.1] at this; unfold plB at this; rw [if_neg h6] at this; exact this
        rw [hl] at this; cases this
      · have := hpl
        unfold plB at this
        rw [if_pos y.1, y.2.1, hl] at this
        simp at this
theorem s_placesOn (hS : Sh w0 m) (hI : RI r) (hp : p < 60) (hf : f < 40) {r1 : Rs} (hV : Viw r dy as r1) : CM X w0 m bX11_placesOn mX11_placesOn [vI (nI f), vI (nI p)] r1 (pV fun r2 => PlR r dy as (PLs r dy as p f) r2) := by
  refine pX11_placesOn X w0 m hS _ _ _ r1 ?_
  rintro r2 rfl
  refine s_placesLoop hS hI hp hf _ (fun _ z => z) (nE r) 1 [] _ (by omega) (by omega) ⟨List.Pairwise.nil, fun w => ⟨fun z => (by cases z), fun z => ?_⟩, by simp⟩ ⟨⟨hV.1.uS 57 _ rfl, hV.2.1, hV.2.2⟩, rfl, fun j hj => by simp at hj⟩
  have := (own_in hI (pl_vW hI z.1 z.2.1)).1
  omega
end O4
