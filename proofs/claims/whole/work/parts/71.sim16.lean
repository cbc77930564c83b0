/-! ===== due ===== -/
theorem min_sw (a b : Int32) : (if a < b then a else b) = (if b < a then b else a) := by
  by_cases h : a < b
  · rw [if_pos h, if_neg (fun z => by rw [Int32.lt_iff_toInt_lt] at *; omega)]
  · rw [if_neg h]
    by_cases h2 : b < a
    · rw [if_pos h2]
    · rw [if_neg h2]
      apply Int32.toInt_inj.mp
      rw [Int32.lt_iff_toInt_lt] at *
      omega
theorem sub_pos {a b : Int32} (ha : 0 ≤ a) (hb : 0 ≤ b) : (0 : Int32) < a - b ↔ b < a := by
  rw [Int32.le_iff_toInt_le] at ha hb
  rw [Int32.lt_iff_toInt_lt, Int32.lt_iff_toInt_lt, Int32.toInt_sub]
  have h0 : (0 : Int32).toInt = 0 := rfl
  rw [h0] at ha hb
  rw [h0]
  have h1 := Int32.toInt_lt a
  have h2 := Int32.toInt_lt b
  rw [Int.bmod_eq_of_le (by omega) (by omega)]
  omega
def rY (r : Rs) (k : Nat) : Int32 := if rI r 11 k = 0 then 20 else if sS r 39 < rI r 11 k then (rI r 11 k - sS r 39) / 365 else 0
def iF (r : Rs) (k : Nat) (s : Int64) : Int64 := s + ((s * (rI r 11 k).toInt64) * (if (sS r 39 - rI r 17 k) < (365 * rI r 21 k) then sS r 39 - rI r 17 k else 365 * rI r 21 k).toInt64) / 365000
def dueF (r : Rs) (k : Nat) (s : Int64) : Int64 :=
  if rI r 3 k = 6 then 0 else if rI r 3 k = 4 then (if rI r 18 k = 0 then s * (if rY r k < 20 then rY r k else 20).toInt64 else s) else if rI r 3 k = 3 then (if iF r k s < rJ r 12 k then iF r k s else rJ r 12 k) else iF r k s
theorem Pe.due {r r' : Rs} (h : Pe r r') (k : Nat) : dueF r' k = dueF r k := by
  funext s
  unfold dueF iF rY
  rw [h.2.2.1 3 rfl, h.2.2.1 11 rfl, h.2.2.1 17 rfl, h.2.2.1 18 rfl, h.2.2.1 21 rfl, h.2.2.2 12 rfl, h.1 39 rfl]
def dvs (g : Int64 → Int64) (f : Nat → Int64) (s d : Int64) (l : List Nat) (y : Nat) : Int64 := match l with
  | [] => 0
  | z :: t => if y = z then g (s + f z) - d else dvs g f (s + f z) (g (s + f z)) t y
section C16
variable {X : Cx} {w0 : Wd} {m : Nat}
theorem s_dueOfSum (hS : Sh w0 m) (r : Rs) (k : Nat) (hk : k < 301) (hy : rI r 3 k ≠ 5 → rI r 21 k = 2) (s : Int64) : CM X w0 m bX11_dueOfSum mX11_dueOfSum [vI (nI k), vJ s] r (pJ fun v r1 => v = dueF r k s ∧ r1 = r) := by
  have hkc : (nI k).toNatClampNeg = k := nI_clamp (by omega)
  have hv : vp_in (nI k) 301 := inN hk (by omega)
  refine pX11_dueOfSum X w0 m hS _ _ s r ?_
  rw [hkc]
  refine ⟨hv, fun h6 => ⟨fun h4 => ⟨fun h5 => ?_, fun h5 => ⟨hv, ?_⟩⟩, fun h4 => ⟨hv, fun h0 => ⟨hv, fun hd => ⟨hv, ?_⟩, fun hd => ?_⟩, fun h0 => ?_⟩⟩, fun h6 => ?_⟩
  · have e : (730 : Int32) = 365 * rI r 21 k := by rw [hy h5]; decide
    rw [e]
    refine rX11_dueOfSum_117 X w0 m hS _ _ _ _ _ r ?_
    rw [hkc]
    exact ⟨hv, hv, fun h3 => ⟨by rw [dueF, if_neg h6, if_neg h4, if_neg h3]; rfl, rfl⟩, fun h3 => ⟨hv, by rw [dueF, if_neg h6, if_neg h4, if_pos h3]; rfl, rfl⟩⟩
  · refine rX11_dueOfSum_117 X w0 m hS _ _ _ _ _ r ?_
    rw [hkc]
    exact ⟨hv, hv, fun h3 => ⟨by rw [dueF, if_neg h6, if_neg h4, if_neg h3]; rfl, rfl⟩, fun h3 => ⟨hv, by rw [dueF, if_neg h6, if_neg h4, if_pos h3]; rfl, rfl⟩⟩
  · refine rX11_dueOfSum_69 X w0 m hS _ _ _ _ r ?_
    rw [hkc]
    exact ⟨hv, fun h3 => by simp [dueF, rY, h4, h3, h0, hd], fun h3 => by simp [dueF, h4, h3]⟩
  · refine rX11_dueOfSum_69 X w0 m hS _ _ _ _ r ?_
    rw [hkc]
    exact ⟨hv, fun h3 => by simp [dueF, rY, h4, h3, h0, hd], fun h3 => by simp [dueF, h4, h3]⟩
  · refine rX11_dueOfSum_69 X w0 m hS _ _ _ _ r ?_
    rw [hkc]
    exact ⟨hv, fun h3 => by simp [dueF, rY, h4, h3, h0], fun h3 => by simp [dueF, h4, h3]⟩
  · simp [dueF, h6]
theorem s_dues (hS : Sh w0 m) (r : Rs) (hc : RIc r) (hE : RIE r) (k : Nat) (k1 : 1 ≤ k) (k2 : k ≤ nE r) (hp : whR r k = k) : CM X w0 m bX11_dues mX11_dues [vI (nI k)] r (pV fun r1 => Pe r r1 ∧ ∀ y ∈ lvs (fiR r) k, rJ r1 49 y = dvs (dueF r k) (rJ r 8) 0 0 (lvs (fiR r) k) y) := by
  have hN := hc.2.1.2
  have H := HT_of hc hE
  have hl := lvs_len H k1 k2
  have hnd := lvs_nodup H k k1 k2
  refine pX11_dues X w0 m hS _ _ r ((s_leavesOf hS r hc hE k k1 k2).V ?_)
  rintro r1 rfl
  have key : ∀ (t : List Nat) (i : Nat) (s d : Int64) (r' : Rs), (lvs (fiR r) k).drop i = t → i ≤ (lvs (fiR r) k).length → Pe r r' → sS r' 48 = nI (lvs (fiR r) k).length → (∀ j, j < (lvs (fiR r) k).length → rI r' 47 j = nI ((lvs (fiR r) k).getD j 0)) → ∀ A : Rs → Prop, (∀ r1, Pe r r1 → (∀ y ∈ t, rJ r1 49 y = dvs (dueF r k) (rJ r 8) s d t y) → (∀ y, y ∉ t → rJ r1 49 y = rJ r' 49 y) → A r1) → iX11_dues_13 X w0 m A (nI k) s d (nI i) r' := by
    intro t
    induction t with
    | nil =>
      intro i s d r' ht hi hP h48 h47 A hA
      have hi2 : (lvs (fiR r) k).length ≤ i := List.drop_eq_nil_iff.mp ht
      refine rX11_dues_13 X w0 m hS _ _ _ _ _ _ ?_
      rw [h48, nI_leI (by omega) (by omega)]
      exact ⟨fun _ => hA _ hP (fun y hy => (by cases hy)) (fun _ _ => rfl), fun q => absurd hi2 q⟩
    | cons y t ih =>
      intro i s d r' ht hi hP h48 h47 A hA
      have hi2 : i < (lvs (fiR r) k).length := by
        rcases Nat.lt_or_ge i (lvs (fiR r) k).length with h | h
        · exact h
        · rw [List.drop_eq_nil_iff.mpr h] at ht; cases ht
      have hy : (lvs (fiR r) k).getD i 0 = y := by
        have h3 : (lvs (fiR r) k)[i]? = some y := by rw [← List.head?_drop, ht]; rfl
        simp [List.getD, h3]
      have hym : y ∈ lvs (fiR r) k := by
        have : y ∈ (lvs (fiR r) k).drop i := by rw [ht]; exact List.mem_cons_self
        exact List.mem_of_mem_drop this
      have hyt : y ∉ t := by
        have : (y :: t).Nodup := by rw [← ht]; exact hnd.sublist (List.drop_sublist _ _)
        exact (List.nodup_cons.mp this).1
      have hyb := lvs_mem H k k1 k2 y hym
      have hic : (nI i).toNatClampNeg = i := nI_clamp (by omega)
      have hyc : (nI y).toNatClampNeg = y := nI_clamp (by omega)
      refine rX11_dues_13 X w0 m hS _ _ _ _ _ _ ?_
      rw [h48, nI_leI (by omega) (by omega), hic, h47 i hi2, hy, hyc, hP.2.2.2 8 rfl, ← nI_succ]
      have hyr : rI r' 3 k ≠ 5 → rI r' 21 k = 2 := by
        rw [hP.2.2.1 3 rfl, hP.2.2.1 21 rfl]
        have := (hE k k1 k2).2.2.2.1.2.2.2.2.2
        rw [hp] at this
        exact this
      refine ⟨fun q => absurd hi2 (by omega), fun _ => ⟨inN (by omega) (by omega), inN (by omega) (by omega), (s_dueOfSum hS r' k (by omega) hyr _).J ?_⟩⟩
      rintro v r2 ⟨rfl, rfl⟩
      rw [h47 i hi2, hy, hyc, hP.due]
      refine ⟨inN (by omega) (by omega), inN (by omega) (by omega), ?_⟩
      rintro r3 rfl
      have ih2 := ih (i + 1) (s + rJ r 8 y) (dueF r k (s + rJ r 8 y)) (uJ r2 49 y (dueF r k (s + rJ r 8 y) - d)) (by rw [← List.drop_drop, ht]; rfl) (by omega) (hP.uJ 49 y _ rfl) h48 h47 A
      refine ih2 ?_
      intro r4 q1 q2 q3
      refine hA _ q1 (fun z hz => ?_) (fun z hz => ?_)
      · by_cases hzy : z = y
        · subst hzy
          rw [q3 z hyt]
          show (if 49 = 49 ∧ z = z then _ else _) = _
          simp [dvs]
        · rw [dvs, if_neg hzy]
          exact q2 z ((List.mem_cons.mp hz).resolve_left hzy)
      · have h1 : z ≠ y := fun e => hz (by rw [e]; exact List.mem_cons_self)
        rw [q3 z (fun e => hz (List.mem_cons_of_mem _ e))]
        show (if 49 = 49 ∧ z = y then _ else rJ r2 49 z) = _
        rw [if_neg (fun e => h1 e.2)]
  exact key _ 0 0 0 (setL r k) rfl (Nat.zero_le _) (Pe.sL k) (sL_48 r k) (fun j hj => sL_47 r k (by omega) hj) _ (fun r4 q1 q2 _ => ⟨q1, q2⟩)
end C16
