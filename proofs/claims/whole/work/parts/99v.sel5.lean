/-! ===== sell: the reference settles ===== -/
theorem mn_cm (a b : Int64) : mn a b = mn b a := Int64.toInt_inj.mp (by rw [mn_int, mn_int]; omega)
section V1
variable {r : Rs} {p : Nat} {nw : Nat → Int64} {P K Q : Nat → Bool}
theorem sl_17 (o : Nat) : uI (slS r p nw P K Q) 17 o (sS r 39) = slS r p nw P (inB K o) Q := by
  refine tup_eq rfl rfl (fun k i => ?_) (fun k i => rfl)
  show (if k = 17 ∧ i = o then sS r 39 else if k = 17 ∧ K i = true then sS r 39 else if k = 18 ∧ Q i = true ∧ rI r 3 i = 4 then 1 else if (k = 28 ∨ k = 29) ∧ P (i / 60) = true ∧ i % 60 = p then sS r 39 else rI r k i) = (if k = 17 ∧ (if i = o then true else K i) = true then sS r 39 else if k = 18 ∧ Q i = true ∧ rI r 3 i = 4 then 1 else if (k = 28 ∨ k = 29) ∧ P (i / 60) = true ∧ i % 60 = p then sS r 39 else rI r k i)
  by_cases hi : i = o
  · by_cases h17 : k = 17
    · simp [h17, hi]
    · simp [h17]
  · simp [hi]
theorem sl_18 (e wh : Nat) (t : Int32) (ha : rI r 3 e = 4 → wh = e ∧ t = 1) (hb : rI r 3 e ≠ 4 → t = rI (slS r p nw P K Q) 18 wh) : uI (slS r p nw P K Q) 18 wh t = slS r p nw P K (inB Q e) := by
  refine tup_eq rfl rfl (fun k i => ?_) (fun k i => rfl)
  by_cases h4 : rI r 3 e = 4
  · obtain ⟨rfl, rfl⟩ := ha h4
    show (if k = 18 ∧ i = wh then 1 else if k = 17 ∧ K i = true then sS r 39 else if k = 18 ∧ Q i = true ∧ rI r 3 i = 4 then 1 else if (k = 28 ∨ k = 29) ∧ P (i / 60) = true ∧ i % 60 = p then sS r 39 else rI r k i) = (if k = 17 ∧ K i = true then sS r 39 else if k = 18 ∧ (if i = wh then true else Q i) = true ∧ rI r 3 i = 4 then 1 else if (k = 28 ∨ k = 29) ∧ P (i / 60) = true ∧ i % 60 = p then sS r 39 else rI r k i)
    by_cases hi : i = wh
    · subst hi
      by_cases h18 : k = 18
      · simp [h18, h4]
      · simp [h18]
    · simp [hi]
  · have hr : rI (slS r p nw P K (inB Q e)) k i = rI (slS r p nw P K Q) k i := by
      show (if k = 17 ∧ K i = true then sS r 39 else if k = 18 ∧ (if i = e then true else Q i) = true ∧ rI r 3 i = 4 then 1 else if (k = 28 ∨ k = 29) ∧ P (i / 60) = true ∧ i % 60 = p then sS r 39 else rI r k i) = (if k = 17 ∧ K i = true then sS r 39 else if k = 18 ∧ Q i = true ∧ rI r 3 i = 4 then 1 else if (k = 28 ∨ k = 29) ∧ P (i / 60) = true ∧ i % 60 = p then sS r 39 else rI r k i)
      by_cases hi : i = e
      · subst hi; simp [h4]
      · simp [hi]
    rw [hr, (R_uI _ 18 wh t).2.2.2]
    by_cases hk : k = 18 ∧ i = wh
    · rw [if_pos hk, hb h4, hk.1, hk.2]
    · rw [if_neg hk]
theorem sl_r18 (i : Nat) : rI (slS r p nw P K Q) 18 i = if Q i = true ∧ rI r 3 i = 4 then 1 else rI r 18 i := by
  show (if 18 = 17 ∧ K i = true then sS r 39 else if 18 = 18 ∧ Q i = true ∧ rI r 3 i = 4 then 1 else if (18 = 28 ∨ 18 = 29) ∧ P (i / 60) = true ∧ i % 60 = p then sS r 39 else rI r 18 i) = _
  simp
end V1
section V2
variable {X : Cx} {m : Nat} {w0 : Wd} {r ρ : Rs} {p f : Nat} {d h : Nat → Int64} {nw : Nat → Int64} {P Q : Nat → Bool} {c : Nat → Bool}
theorem s_runLoop (hS : Sh w0 m) {O : List Nat} (hO : ∀ o ∈ O, o ≤ 300) (hl : O.length ≤ 300) (left : Int64) (A : Int64 → Rs → Prop) (hA : ∀ r2 K, (∀ k, K k = true ↔ k ∈ O) → Pe (uS (uS (slS ρ p nw P K Q) 43 (sS ρ 43 + 1)) 41 0) r2 → A left r2) : ∀ (n i : Nat) (K : Nat → Bool) (r1 : Rs), i + n = O.length → (∀ k, K k = true ↔ k ∈ O.take i) → Pe (slS ρ p nw P K Q) r1 → sS r1 58 = nI O.length → (∀ j, j < O.length → rI r1 55 j = nI (O.getD j 0)) → iX11_sell_195 X w0 m A left (nI i) r1 := by
  intro n
  induction n with
  | zero =>
    intro i K r1 hi hK hP h58 h55
    refine rX11_sell_195 X w0 m hS _ _ _ r1 ⟨fun _ => ?_, fun z => absurd (by rw [h58, nI_leI (by omega) (by omega)]; omega) z⟩
    rintro r2 rfl r4 rfl
    have e43 : sS r1 43 = sS ρ 43 := hP.1 43 rfl
    rw [e43]
    exact hA _ K (fun k => by rw [hK, List.take_of_length_le (by omega)]) (pe_cS (pe_cS hP _ _) _ _)
  | succ n ih =>
    intro i K r1 hi hK hP h58 h55
    have hlt : i < O.length := by omega
    have hg := h55 i hlt
    have hmem : O.getD i 0 ∈ O := by rw [List.getD_eq_getElem?_getD, List.getElem?_eq_getElem hlt]; exact List.getElem_mem hlt
    have ho := hO _ hmem
    refine rX11_sell_195 X w0 m hS _ _ _ r1 ⟨fun z => ?_, fun _ => ?_⟩
    · rw [h58, nI_leI (by omega) (by omega)] at z; omega
    rw [nI_clamp (show i < 2 ^ 31 by omega), hg, nI_clamp (show O.getD i 0 < 2 ^ 31 by omega), nI_1]
    refine ⟨inN (by omega) (by decide), inN (by omega) (by decide), ?_⟩
    rintro r8 rfl
    have e39 : sS r1 39 = sS ρ 39 := hP.1 39 rfl
    have hP' := pe_cI hP 17 (O.getD i 0) (sS ρ 39)
    have e17 : uI (slS ρ p nw P K Q) 17 (O.getD i 0) (sS ρ 39) = slS ρ p nw P (inB K (O.getD i 0)) Q := sl_17 _
    rw [e17] at hP'
    rw [e39]
    refine ih (i + 1) (inB K (O.getD i 0)) _ (by omega) (fun k => ?_) hP' h58 (fun j hj => ?_)
    · unfold inB
      have ht : O.take (i + 1) = O.take i ++ [O.getD i 0] := by
        rw [List.take_succ, List.getElem?_eq_getElem hlt, List.getD_eq_getElem?_getD, List.getElem?_eq_getElem hlt]; rfl
      rw [ht, List.mem_append, ← hK]
      by_cases hk : k = O.getD i 0
      · rw [if_pos hk, hk]; simp
      · rw [if_neg hk, List.mem_singleton]; exact ⟨Or.inl, fun q => q.resolve_right hk⟩
    · rw [(R_uI r1 17 _ _).2.2.2, if_neg (by omega)]; exact h55 j hj
set_option maxHeartbeats 2000000 in
theorem s_setLoop (hS : Sh w0 m) (hI : RI r) (hr1 : sS ρ = sS r) (hr2 : rI ρ = rI r) (hr3 : rJ ρ 8 = rJ r 8) (hp : p < 60) {O : List Nat} {mv : Nat → Int32} (left : Int64) (A : Int64 → Rs → Prop) (hA : ∀ r2 P, (∀ z, P z = true ↔ 1 ≤ z ∧ z ≤ nE r ∧ c z = true) → Pe (slS ρ p (nwS r d h) P (fun _ => false) P) r2 → OrF r O mv r2 → iX11_sell_195 X w0 m A left 0 r2) : ∀ (n e : Nat) (P : Nat → Bool) (r1 : Rs), e + n = nE r + 1 → 1 ≤ e → (∀ z, P z = true ↔ 1 ≤ z ∧ z < e ∧ c z = true) → Pe (slS ρ p (nwS r d h) P (fun _ => false) P) r1 → Go r d h c r1 → OrF r O mv r1 → iX11_sell_38 X w0 m A (nI p) left (nI e) r1 := by
  have hN := hI.1.2.1.2
  intro n
  induction n with
  | zero =>
    intro e P r1 he h1 hPz hP hG hO
    have e30 : sS r1 30 = nI (nE r) := (hP.1 30 rfl).trans ((congrFun hr1 30).trans hI.1.2.1.1)
    refine rX11_sell_38 X w0 m hS _ _ _ _ r1 ⟨fun _ => hA r1 P (fun z => ?_) hP hO, fun z => absurd (by rw [e30, nI_ltI (by omega) (by omega)]; omega) z⟩
    rw [hPz]
    exact ⟨fun q => ⟨q.1, by omega, q.2.2⟩, fun q => ⟨q.1, by omega, q.2.2⟩⟩
  | succ n ih =>
    intro e P r1 he h1 hPz hP hG hO
    have h2 : e ≤ nE r := by omega
    have e30 : sS r1 30 = nI (nE r) := (hP.1 30 rfl).trans ((congrFun hr1 30).trans hI.1.2.1.1)
    obtain ⟨e60, e59, e61⟩ := hG e h1 h2
    have hE := hI.2.2.2.1 e h1 h2
    have e39 : sS r1 39 = sS ρ 39 := hP.1 39 rfl
    have e3 : rI r1 3 e = rI r 3 e := by rw [hP.2.2.1 3 rfl]; exact congrFun (congrFun hr2 3) e
    have e5 : rI r1 5 e = nI (whR r e) := by rw [hP.2.2.1 5 rfl]; exact (congrFun (congrFun hr2 5) e).trans hE.1.2.1
    have hw := hE.2.1
    have hPe : P e = false := by
      cases hq : P e with
      | false => rfl
      | true => have := (hPz e).mp hq; omega
    have e8 : rJ r1 8 e = rJ r 8 e := by
      rw [hP.2.2.2 8 rfl]
      show (if 8 = 8 ∧ P e = true then _ else rJ ρ 8 e) = _
      rw [if_neg (fun q => by rw [hPe] at q; exact absurd q.2 (by decide)), hr3]
    have e18 : rI r1 18 (whR r e) = rI (slS ρ p (nwS r d h) P (fun _ => false) P) 18 (whR r e) := by rw [hP.2.2.1 18 rfl]
    have f18 : rI r1 18 (whR r e) = 0 ∨ rI r1 18 (whR r e) = 1 := by
      rw [e18]
      rw [sl_r18, hr2]
      split
      · exact Or.inr rfl
      · exact (hI.2.2.1.1 _).2.1
    have hk4 : rI r 3 e = 4 → whR r e = e := fun h4 => by
      have hx := (hI.2.2.1.2.2.2.2.2 e h1 h2).2.1.2.1 h4
      exact hw.2.2.2.1.mp hx.1
    have step : c e = true → ∀ v t, v = nwS r d h e → (rI r 3 e = 4 → t = 1) → (rI r 3 e ≠ 4 → t = rI r1 18 (whR r e)) → iX11_sell_38 X w0 m A (nI p) left (nI (e + 1)) (uI (uI (uI (uJ r1 8 e v) 18 (whR r e) t) 28 (60 * e + p) (sS r1 39)) 29 (60 * e + p) (sS r1 39)) := by
      intro hc v t hv ht4 htn
      have a1 := pe_cI (pe_cI (pe_cJ (pe_cI hP 18 (whR r e) t) 8 e v) 28 (60 * e + p) (sS r1 39)) 29 (60 * e + p) (sS r1 39)
      have hr3' : rI ρ 3 e = rI r 3 e := congrFun (congrFun hr2 3) e
      rw [sl_18 e (whR r e) t (fun z => ⟨hk4 (hr3'.symm.trans z), ht4 (hr3'.symm.trans z)⟩) (fun z => by rw [htn (fun y => z (hr3'.trans y)), e18]), e39, hv, sl_leaf hp e] at a1
      rw [e39, hv]
      refine ih (e + 1) (inB P e) _ (by omega) (by omega) (fun z => ?_) a1 (fun y y1 y2 => ?_) ?_
      · unfold inB
        by_cases hz : z = e
        · rw [if_pos hz, hz]; simp [hc, h1]
        · rw [if_neg hz, hPz]
          exact ⟨fun q => ⟨q.1, by omega, q.2.2⟩, fun q => ⟨q.1, by omega, q.2.2⟩⟩
      · exact hG y y1 y2
      · exact hO
    refine rX11_sell_38 X w0 m hS _ _ _ _ r1 ⟨fun z => ?_, fun _ => ?_⟩
    · rw [e30, nI_ltI (by omega) (by omega)] at z; omega
    have ve : vp_in (nI e) 301 := inN (by omega) (by decide)
    have vw : vp_in (nI (whR r e)) 301 := inN (by omega) (by decide)
    have v60 : vp_in (nI (60 * e + p)) 18060 := inN (by omega) (by decide)
    rw [nI60, nI_clamp (show 60 * e + p < 2 ^ 31 by omega), nI_clamp (show e < 2 ^ 31 by omega), e61, e60, e59, e8, e3, e5, nI_clamp (show whR r e < 2 ^ 31 by omega), nI_1]
    refine ⟨ve, fun hc => ?_, fun hc => ?_⟩
    · rw [bI_n] at hc
      refine ⟨ve, ve, ve, ve, fun h4 => ⟨ve, ve, ?_⟩, fun h4 => ⟨ve, ?_⟩⟩
      · have hv : (if d e - h e < rJ r 8 e then d e - h e else rJ r 8 e) = nwS r d h e := by
          unfold nwS; rw [if_neg h4, mn_if, mn_cm]; rfl
        rintro r11 rfl
        refine ⟨vw, fun q => ⟨vw, ?_⟩, fun q => ⟨ve, fun q3 => ⟨vw, ?_⟩, fun q3 => absurd (e3.symm.trans q3) h4⟩⟩
        · rintro r16 rfl
          refine ⟨v60, ?_⟩
          rintro r19 rfl
          refine ⟨v60, ?_⟩
          rintro r22 rfl
          exact step hc _ 1 hv (fun z => absurd z h4) (fun _ => (f18.resolve_left q).symm)
        · rintro r16 rfl
          refine ⟨v60, ?_⟩
          rintro r19 rfl
          refine ⟨v60, ?_⟩
          rintro r22 rfl
          have q' : rI r1 18 (whR r e) = 0 := q
          exact step hc _ 0 hv (fun z => absurd z h4) (fun _ => q'.symm)
      · have hv : d e - h e = nwS r d h e := by unfold nwS; rw [if_pos h4]; rfl
        rintro r11 rfl
        refine ⟨vw, fun q => ⟨vw, ?_⟩, fun q => ⟨ve, fun q3 => absurd (e3.trans h4) q3, fun q3 => ⟨vw, ?_⟩⟩⟩
        · rintro r16 rfl
          refine ⟨v60, ?_⟩
          rintro r19 rfl
          refine ⟨v60, ?_⟩
          rintro r22 rfl
          exact step hc _ 1 hv (fun _ => rfl) (fun z => absurd h4 z)
        · rintro r16 rfl
          refine ⟨v60, ?_⟩
          rintro r19 rfl
          refine ⟨v60, ?_⟩
          rintro r22 rfl
          exact step hc _ 1 hv (fun _ => rfl) (fun z => absurd h4 z)
    · rw [bI_0] at hc
      refine ih (e + 1) P r1 (by omega) (by omega) (fun z => ?_) hP hG hO
      rw [hPz]
      refine ⟨fun q => ⟨q.1, by omega, q.2.2⟩, fun q => ⟨q.1, ?_, q.2.2⟩⟩
      by_cases hz : z = e
      · rw [hz, hc] at q; exact absurd q.2.2 (by decide)
      · omega
end V2
